-- X11_floorOf
abbrev kMod_floorOf : Cd := (yX11_floorOf, cX11_floorOf, 4, (some .int), 4, 91)
theorem dX11_floorOf : dcheck cX11_floorOf [(0, .iconst 0, 1), (1, .istore_n 2, 1), (2, .iload_n 2, 1), (3, .aload_n 0, 1), (4, .getfield 22, 3), (7, .bipush 9, 2), (9, .iaload, 1), (10, .if_icmp .ge 30, 3), (13, .aload_n 0, 1), (14, .iload_n 2, 1), (15, .iconst 1, 1), (16, .invokevirtual 252, 3), (19, .iconst 1, 1), (20, .if_icmp .ne 14, 3), (23, .aload_n 0, 1), (24, .iload_n 2, 1), (25, .iload_n 1, 1), (26, .invokevirtual 255, 3), (29, .ifCond .le 5, 3), (32, .iconst (-1), 1), (33, .ireturn, 1), (34, .iinc 2 1, 3), (37, .goto (-35), 3), (40, .aload_n 0, 1), (41, .iload_n 1, 1), (42, .invokevirtual 258, 3), (45, .istore_n 2, 1), (46, .iconst 0, 1), (47, .istore_n 3, 1), (48, .iload_n 3, 1), (49, .aload_n 0, 1), (50, .getfield 22, 3), (53, .iconst 2, 1), (54, .iaload, 1), (55, .if_icmp .ge 28, 3), (58, .iload_n 2, 1), (59, .aload_n 0, 1), (60, .getfield 22, 3), (63, .bipush 47, 2), (65, .iload_n 3, 1), (66, .iadd, 1), (67, .iaload, 1), (68, .aload_n 0, 1), (69, .iload_n 3, 1), (70, .iload_n 1, 1), (71, .invokevirtual 261, 3), (74, .imul, 1), (75, .iadd, 1), (76, .istore_n 2, 1), (77, .iinc 3 1, 3), (80, .goto (-32), 3), (83, .iload_n 2, 1), (84, .ireturn, 1)] = true := by decide +kernel
theorem cw_Mod_floorOf {k : Cd} (h1 : kMod_floorOf.2.2.2.2.1 + 1 ≤ k.2.2.2.2.1) (h2 : 8 + (kMod_floorOf.2.2.1 + 11) + kMod_floorOf.2.2.2.2.2 ≤ k.2.2.2.2.2) : Cw k kMod_floorOf 1 := ⟨wcode_X11_floorOf, wini_SplitProgramModel, ⟨by decide, by decide, by decide +kernel⟩, h1, h2⟩
def Mod_floorOf_j34 (v0 : Nat) (v1 : Int32) (v2 : Int32) (h : AHeap) : Option ((Int32 × AHeap) ⊕ ((Int32 × AHeap) ⊕ (Int32 × AHeap))) :=
  some (Sum.inl (v2 + 1, h))
theorem Mod_floorOf_j34_J {E : JE} {l : Launch} {G : GX} {r : Option Value} {h' : AHeap} (ok : JOK E l G kMod_floorOf 0 0 r h') (v0 : Nat) (v1 : Int32) (v2 : Int32) (h : AHeap) {Y : (Int32 × AHeap) ⊕ ((Int32 × AHeap) ⊕ (Int32 × AHeap)) → Prop} (k1 : ∀ s' : Int32 × AHeap, Y (.inl s') → JW E kMod_floorOf 2 [some (.ref v0), some (.int v1), some (.int s'.1), none] [] s'.2 0 0) (kx32 : ∀ q : Int32 × AHeap, Y (.inr (Sum.inl q)) → JW E kMod_floorOf 32 [some (.ref v0), some (.int v1), some (.int q.1), none] [] q.2 0 0) (kx40 : ∀ q : Int32 × AHeap, Y (.inr (Sum.inr q)) → JW E kMod_floorOf 40 [some (.ref v0), some (.int v1), some (.int q.1), none] [] q.2 0 0) : J E kMod_floorOf (Mod_floorOf_j34 v0 v1 v2 h) Y 34 [some (.ref v0), some (.int v1), some (.int v2), none] [] h 0 0 := by
  unfold Mod_floorOf_j34
  refine J_iinc (v := v2 + 1) (ls' := [some (.ref v0), some (.int v1), some (.int (v2 + 1)), none]) (pc' := 37) ok (dOf dX11_floorOf 21 rfl) rfl rfl (by rfl) (Nat.le_of_ble_eq_true rfl) rfl rfl ?_
  refine J_goto (tgt := 2) ok (dOf dX11_floorOf 22 rfl) (by decide) ?_
  exact J_fin (k1 (v2 + 1, h))
def Mod_floorOf_b2 (v0 : Nat) (v1 : Int32) (s : Int32 × AHeap) : Option ((Int32 × AHeap) ⊕ ((Int32 × AHeap) ⊕ (Int32 × AHeap))) :=
  (gfR s.2 v0 11 5).bind fun a1 => (ald 0 s.2 a1 9).bind fun x2 => (if x2 ≤ s.1 then some (Sum.inr (Sum.inr (s.1, s.2))) else (chk s.2 v0 11).bind fun _ => bnd2 (Mod_ofCut v0 s.1 1 s.2) fun x4 h3 => (if ¬ x4 = 1 then Mod_floorOf_j34 v0 v1 s.1 h3 else (chk h3 v0 11).bind fun _ => bnd2 (Mod_toldBy v0 s.1 v1 h3) fun x6 h5 => (if x6 ≤ 0 then Mod_floorOf_j34 v0 v1 s.1 h5 else some (Sum.inr (Sum.inl (s.1, h5))))))
theorem Mod_floorOf_b2_J {E : JE} {l : Launch} {G : GX} {r : Option Value} {h' : AHeap} (ok : JOK E l G kMod_floorOf 0 0 r h') (v0 : Nat) (v1 : Int32) {Y : (Int32 × AHeap) ⊕ ((Int32 × AHeap) ⊕ (Int32 × AHeap)) → Prop} (k1 : ∀ s' : Int32 × AHeap, Y (.inl s') → JW E kMod_floorOf 2 [some (.ref v0), some (.int v1), some (.int s'.1), none] [] s'.2 0 0) (kx32 : ∀ q : Int32 × AHeap, Y (.inr (Sum.inl q)) → JW E kMod_floorOf 32 [some (.ref v0), some (.int v1), some (.int q.1), none] [] q.2 0 0) (kx40 : ∀ q : Int32 × AHeap, Y (.inr (Sum.inr q)) → JW E kMod_floorOf 40 [some (.ref v0), some (.int v1), some (.int q.1), none] [] q.2 0 0) (s : Int32 × AHeap) : J E kMod_floorOf (Mod_floorOf_b2 v0 v1 s) Y 2 [some (.ref v0), some (.int v1), some (.int s.1), none] [] s.2 0 0 := by
  unfold Mod_floorOf_b2
  refine J_iload_n (pc' := 3) ok (dOf dX11_floorOf 2 rfl) rfl rfl rfl ?_
  refine J_aload_n (pc' := 4) ok (dOf dX11_floorOf 3 rfl) rfl rfl rfl ?_
  refine J_getR (ci := 11) (kf := 5) (C := RX11) (T := TX11) (N := 29) (pc' := 7) ok (dOf dX11_floorOf 4 rfl) rfl (by decide) rfl (by decide) win_11 wfl_X11_22 (fun a1 => ?_)
  refine J_bipush (v := 9) (pc' := 9) ok (dOf dX11_floorOf 5 rfl) rfl (by decide) ?_
  refine J_iald (pc' := 10) ok (dOf dX11_floorOf 6 rfl) rfl (fun x2 => ?_)
  refine J_icmp_ge (tgt := 40) (pc' := 13) ok (dOf dX11_floorOf 7 rfl) rfl (by decide) ?_ ?_
  · exact J_fin (kx40 (s.1, s.2))
  · refine J_aload_n (pc' := 14) ok (dOf dX11_floorOf 8 rfl) rfl rfl rfl ?_
    refine J_iload_n (pc' := 15) ok (dOf dX11_floorOf 9 rfl) rfl rfl rfl ?_
    refine J_iconst (v := 1) (pc' := 16) ok (dOf dX11_floorOf 10 rfl) rfl (by decide) ?_
    refine J_callVi (k2 := kMod_ofCut) (ci := 11) (T := TX11) (N := 29) (as := [.int s.1, .int 1]) (pc' := 19) ok (dOf dX11_floorOf 11 rfl) rfl (cw_Mod_ofCut (by decide) (by decide)) wml_X11_252 winst_X11_ofCut wsel_X11_ofCut rfl ⟨Nat.le_refl 0, Nat.le_refl 0⟩ (Nat.le_of_ble_eq_true rfl) rfl (fun _ _ hf => t_Mod_ofCut hf) (fun x4 h3 => ?_)
    refine J_iconst (v := 1) (pc' := 20) ok (dOf dX11_floorOf 12 rfl) rfl (by decide) ?_
    refine J_icmp_ne (tgt := 34) (pc' := 23) ok (dOf dX11_floorOf 13 rfl) rfl (by decide) ?_ ?_
    · exact Mod_floorOf_j34_J ok v0 v1 s.1 h3 k1 kx32 kx40
    · refine J_aload_n (pc' := 24) ok (dOf dX11_floorOf 14 rfl) rfl rfl rfl ?_
      refine J_iload_n (pc' := 25) ok (dOf dX11_floorOf 15 rfl) rfl rfl rfl ?_
      refine J_iload_n (pc' := 26) ok (dOf dX11_floorOf 16 rfl) rfl rfl rfl ?_
      refine J_callVi (k2 := kMod_toldBy) (ci := 11) (T := TX11) (N := 29) (as := [.int s.1, .int v1]) (pc' := 29) ok (dOf dX11_floorOf 17 rfl) rfl (cw_Mod_toldBy (by decide) (by decide)) wml_X11_255 winst_X11_toldBy wsel_X11_toldBy rfl ⟨Nat.le_refl 0, Nat.le_refl 0⟩ (Nat.le_of_ble_eq_true rfl) rfl (fun _ _ hf => t_Mod_toldBy hf) (fun x6 h5 => ?_)
      refine J_if_le (tgt := 34) (pc' := 32) ok (dOf dX11_floorOf 18 rfl) rfl (by decide) ?_ ?_
      · exact Mod_floorOf_j34_J ok v0 v1 s.1 h5 k1 kx32 kx40
      · exact J_fin (kx32 (s.1, h5))
def Mod_floorOf_j32 (v0 : Nat) (v1 : Int32) (v2 : Int32) (h : AHeap) : Option (Int32 × AHeap) :=
  some ((-1), h)
theorem Mod_floorOf_j32_J {E : JE} {l : Launch} {G : GX} {v : Int32} {h' : AHeap} (ok : JOK E l G kMod_floorOf 0 0 (some (.int v)) h') (v0 : Nat) (v1 : Int32) (v2 : Int32) (h : AHeap) : J E kMod_floorOf (Mod_floorOf_j32 v0 v1 v2 h) (fun z => z = (v, h')) 32 [some (.ref v0), some (.int v1), some (.int v2), none] [] h 0 0 := by
  unfold Mod_floorOf_j32
  refine J_iconst (v := (-1)) (pc' := 33) ok (dOf dX11_floorOf 19 rfl) rfl (by decide) ?_
  exact J_ireturn ok (dOf dX11_floorOf 20 rfl) rfl (Eq.refl 0) (Nat.le_refl 0)
def Mod_floorOf_b48 (v0 : Nat) (v1 : Int32) (s : Int32 × Int32 × AHeap) : Option ((Int32 × Int32 × AHeap) ⊕ ((Int32 × Int32 × AHeap))) :=
  (gfR s.2.2 v0 11 5).bind fun a9 => (ald 0 s.2.2 a9 2).bind fun x10 => (if x10 ≤ s.2.1 then some (Sum.inr (s.1, s.2.1, s.2.2)) else (gfR s.2.2 v0 11 5).bind fun a11 => (ald 0 s.2.2 a11 (47 + s.2.1)).bind fun x12 => (chk s.2.2 v0 11).bind fun _ => bnd2 (Mod_reachBy v0 s.2.1 v1 s.2.2) fun x14 h13 => some (Sum.inl (s.1 + (x12 * x14), s.2.1 + 1, h13)))
theorem Mod_floorOf_b48_J {E : JE} {l : Launch} {G : GX} {r : Option Value} {h' : AHeap} (ok : JOK E l G kMod_floorOf 0 0 r h') (v0 : Nat) (v1 : Int32) {Y : (Int32 × Int32 × AHeap) ⊕ ((Int32 × Int32 × AHeap)) → Prop} (k1 : ∀ s' : Int32 × Int32 × AHeap, Y (.inl s') → JW E kMod_floorOf 48 [some (.ref v0), some (.int v1), some (.int s'.1), some (.int s'.2.1)] [] s'.2.2 0 0) (kx83 : ∀ q : Int32 × Int32 × AHeap, Y (.inr q) → JW E kMod_floorOf 83 [some (.ref v0), some (.int v1), some (.int q.1), some (.int q.2.1)] [] q.2.2 0 0) (s : Int32 × Int32 × AHeap) : J E kMod_floorOf (Mod_floorOf_b48 v0 v1 s) Y 48 [some (.ref v0), some (.int v1), some (.int s.1), some (.int s.2.1)] [] s.2.2 0 0 := by
  unfold Mod_floorOf_b48
  refine J_iload_n (pc' := 49) ok (dOf dX11_floorOf 29 rfl) rfl rfl rfl ?_
  refine J_aload_n (pc' := 50) ok (dOf dX11_floorOf 30 rfl) rfl rfl rfl ?_
  refine J_getR (ci := 11) (kf := 5) (C := RX11) (T := TX11) (N := 29) (pc' := 53) ok (dOf dX11_floorOf 31 rfl) rfl (by decide) rfl (by decide) win_11 wfl_X11_22 (fun a9 => ?_)
  refine J_iconst (v := 2) (pc' := 54) ok (dOf dX11_floorOf 32 rfl) rfl (by decide) ?_
  refine J_iald (pc' := 55) ok (dOf dX11_floorOf 33 rfl) rfl (fun x10 => ?_)
  refine J_icmp_ge (tgt := 83) (pc' := 58) ok (dOf dX11_floorOf 34 rfl) rfl (by decide) ?_ ?_
  · exact J_fin (kx83 (s.1, s.2.1, s.2.2))
  · refine J_iload_n (pc' := 59) ok (dOf dX11_floorOf 35 rfl) rfl rfl rfl ?_
    refine J_aload_n (pc' := 60) ok (dOf dX11_floorOf 36 rfl) rfl rfl rfl ?_
    refine J_getR (ci := 11) (kf := 5) (C := RX11) (T := TX11) (N := 29) (pc' := 63) ok (dOf dX11_floorOf 37 rfl) rfl (by decide) rfl (by decide) win_11 wfl_X11_22 (fun a11 => ?_)
    refine J_bipush (v := 47) (pc' := 65) ok (dOf dX11_floorOf 38 rfl) rfl (by decide) ?_
    refine J_iload_n (pc' := 66) ok (dOf dX11_floorOf 39 rfl) rfl rfl rfl ?_
    refine J_iadd (pc' := 67) ok (dOf dX11_floorOf 40 rfl) rfl ?_
    refine J_iald (pc' := 68) ok (dOf dX11_floorOf 41 rfl) rfl (fun x12 => ?_)
    refine J_aload_n (pc' := 69) ok (dOf dX11_floorOf 42 rfl) rfl rfl rfl ?_
    refine J_iload_n (pc' := 70) ok (dOf dX11_floorOf 43 rfl) rfl rfl rfl ?_
    refine J_iload_n (pc' := 71) ok (dOf dX11_floorOf 44 rfl) rfl rfl rfl ?_
    refine J_callVi (k2 := kMod_reachBy) (ci := 11) (T := TX11) (N := 29) (as := [.int s.2.1, .int v1]) (pc' := 74) ok (dOf dX11_floorOf 45 rfl) rfl (cw_Mod_reachBy (by decide) (by decide)) wml_X11_261 winst_X11_reachBy wsel_X11_reachBy rfl ⟨Nat.le_refl 0, Nat.le_refl 0⟩ (Nat.le_of_ble_eq_true rfl) rfl (fun _ _ hf => t_Mod_reachBy hf) (fun x14 h13 => ?_)
    refine J_imul (pc' := 75) ok (dOf dX11_floorOf 46 rfl) rfl ?_
    refine J_iadd (pc' := 76) ok (dOf dX11_floorOf 47 rfl) rfl ?_
    refine J_istore_n (ls' := [some (.ref v0), some (.int v1), some (.int (s.1 + (x12 * x14))), some (.int s.2.1)]) (pc' := 77) ok (dOf dX11_floorOf 48 rfl) rfl rfl (Nat.le_of_ble_eq_true rfl) rfl rfl ?_
    refine J_iinc (v := s.2.1 + 1) (ls' := [some (.ref v0), some (.int v1), some (.int (s.1 + (x12 * x14))), some (.int (s.2.1 + 1))]) (pc' := 80) ok (dOf dX11_floorOf 49 rfl) rfl rfl (by rfl) (Nat.le_of_ble_eq_true rfl) rfl rfl ?_
    refine J_goto (tgt := 48) ok (dOf dX11_floorOf 50 rfl) (by decide) ?_
    exact J_fin (k1 (s.1 + (x12 * x14), s.2.1 + 1, h13))
def Mod_floorOf_j83 (v0 : Nat) (v1 : Int32) (v2 : Int32) (v3 : Int32) (h : AHeap) : Option (Int32 × AHeap) :=
  some (v2, h)
theorem Mod_floorOf_j83_J {E : JE} {l : Launch} {G : GX} {v : Int32} {h' : AHeap} (ok : JOK E l G kMod_floorOf 0 0 (some (.int v)) h') (v0 : Nat) (v1 : Int32) (v2 : Int32) (v3 : Int32) (h : AHeap) : J E kMod_floorOf (Mod_floorOf_j83 v0 v1 v2 v3 h) (fun z => z = (v, h')) 83 [some (.ref v0), some (.int v1), some (.int v2), some (.int v3)] [] h 0 0 := by
  unfold Mod_floorOf_j83
  refine J_iload_n (pc' := 84) ok (dOf dX11_floorOf 51 rfl) rfl rfl rfl ?_
  exact J_ireturn ok (dOf dX11_floorOf 52 rfl) rfl (Eq.refl 0) (Nat.le_refl 0)
def Mod_floorOf_j40 (v0 : Nat) (v1 : Int32) (v2 : Int32) (h : AHeap) : Option (Int32 × AHeap) :=
  (chk h v0 11).bind fun _ => bnd2 (Mod_feesOf v0 v1 h) fun x8 h7 => (iter (Mod_floorOf_b48 v0 v1) Lmax (x8, 0, h7)).bind (fun (q48 : Int32 × Int32 × AHeap) => Mod_floorOf_j83 v0 v1 q48.1 q48.2.1 q48.2.2)
theorem Mod_floorOf_j40_J {E : JE} {l : Launch} {G : GX} {v : Int32} {h' : AHeap} (ok : JOK E l G kMod_floorOf 0 0 (some (.int v)) h') (v0 : Nat) (v1 : Int32) (v2 : Int32) (h : AHeap) : J E kMod_floorOf (Mod_floorOf_j40 v0 v1 v2 h) (fun z => z = (v, h')) 40 [some (.ref v0), some (.int v1), some (.int v2), none] [] h 0 0 := by
  unfold Mod_floorOf_j40
  refine J_aload_n (pc' := 41) ok (dOf dX11_floorOf 23 rfl) rfl rfl rfl ?_
  refine J_iload_n (pc' := 42) ok (dOf dX11_floorOf 24 rfl) rfl rfl rfl ?_
  refine J_callVi (k2 := kMod_feesOf) (ci := 11) (T := TX11) (N := 29) (as := [.int v1]) (pc' := 45) ok (dOf dX11_floorOf 25 rfl) rfl (cw_Mod_feesOf (by decide) (by decide)) wml_X11_258 winst_X11_feesOf wsel_X11_feesOf rfl ⟨Nat.le_refl 0, Nat.le_refl 0⟩ (Nat.le_of_ble_eq_true rfl) rfl (fun _ _ hf => t_Mod_feesOf hf) (fun x8 h7 => ?_)
  refine J_istore_n (ls' := [some (.ref v0), some (.int v1), some (.int x8), none]) (pc' := 46) ok (dOf dX11_floorOf 26 rfl) rfl rfl (Nat.le_of_ble_eq_true rfl) rfl rfl ?_
  refine J_iconst (v := 0) (pc' := 47) ok (dOf dX11_floorOf 27 rfl) rfl (by decide) ?_
  refine J_istore_n (ls' := [some (.ref v0), some (.int v1), some (.int x8), some (.int 0)]) (pc' := 48) ok (dOf dX11_floorOf 28 rfl) rfl rfl (Nat.le_of_ble_eq_true rfl) rfl rfl ?_
  refine J_iter (lf := fun z48 => [some (.ref v0), some (.int v1), some (.int z48.1), some (.int z48.2.1)]) (sf := fun _ => []) (hf := fun z48 => z48.2.2) (px := (fun (q48 : Int32 × Int32 × AHeap) => 83)) (lx := (fun (q48 : Int32 × Int32 × AHeap) => [some (.ref v0), some (.int v1), some (.int q48.1), some (.int q48.2.1)])) (sx := (fun (q48 : Int32 × Int32 × AHeap) => [])) (hx := (fun (q48 : Int32 × Int32 × AHeap) => q48.2.2)) (fun Y2 z48 m1 m2 => Mod_floorOf_b48_J ok v0 v1 m1 m2 z48) (fun q48 => ?_) Lmax _
  exact Mod_floorOf_j83_J ok v0 v1 q48.1 q48.2.1 q48.2.2
def Mod_floorOf (v0 : Nat) (v1 : Int32) (h : AHeap) : Option (Int32 × AHeap) :=
  (iter (Mod_floorOf_b2 v0 v1) Lmax (0, h)).bind (Sum.elim (fun (q2 : Int32 × AHeap) => Mod_floorOf_j32 v0 v1 q2.1 q2.2) (fun (q2 : Int32 × AHeap) => Mod_floorOf_j40 v0 v1 q2.1 q2.2))
theorem t_Mod_floorOf {l : Launch} {G : GX} {v0 : Nat} {v1 : Int32} {h : AHeap} {v : Int32} {h1 : AHeap} (hf : Mod_floorOf v0 v1 h = some (v, h1)) : CT l G kMod_floorOf 0 0 [.ref v0, .int v1] h (some (.int v)) h1 := by
  refine CT_of (ls := [some (.ref v0), some (.int v1), none, none]) (Z := fun z => z = (v, h1)) (by decide +kernel) (Nat.le_of_ble_eq_true rfl) hf rfl ⟨rfl, rfl, trivial⟩ (fun E ok => ?_)
  unfold Mod_floorOf
  refine J_iconst (v := 0) (pc' := 1) ok (dOf dX11_floorOf 0 rfl) rfl (by decide) ?_
  refine J_istore_n (ls' := [some (.ref v0), some (.int v1), some (.int 0), none]) (pc' := 2) ok (dOf dX11_floorOf 1 rfl) rfl rfl (Nat.le_of_ble_eq_true rfl) rfl rfl ?_
  refine J_iter (lf := fun z2 => [some (.ref v0), some (.int v1), some (.int z2.1), none]) (sf := fun _ => []) (hf := fun z2 => z2.2) (px := (Sum.elim (fun (q2 : Int32 × AHeap) => 32) (fun (q2 : Int32 × AHeap) => 40))) (lx := (Sum.elim (fun (q2 : Int32 × AHeap) => [some (.ref v0), some (.int v1), some (.int q2.1), none]) (fun (q2 : Int32 × AHeap) => [some (.ref v0), some (.int v1), some (.int q2.1), none]))) (sx := (Sum.elim (fun (q2 : Int32 × AHeap) => []) (fun (q2 : Int32 × AHeap) => []))) (hx := (Sum.elim (fun (q2 : Int32 × AHeap) => q2.2) (fun (q2 : Int32 × AHeap) => q2.2))) (fun Y2 z2 m1 m2 => Mod_floorOf_b2_J ok v0 v1 m1 (fun q hq => m2 (Sum.inl q) hq) (fun q hq => m2 (Sum.inr q) hq) z2) (fun q2 => ?_) Lmax _
  rcases q2 with q2 | q2
  · show J E kMod_floorOf (Mod_floorOf_j32 v0 v1 q2.1 q2.2) _ 32 [some (.ref v0), some (.int v1), some (.int q2.1), none] [] q2.2 0 0
    exact Mod_floorOf_j32_J ok v0 v1 q2.1 q2.2
  · show J E kMod_floorOf (Mod_floorOf_j40 v0 v1 q2.1 q2.2) _ 40 [some (.ref v0), some (.int v1), some (.int q2.1), none] [] q2.2 0 0
    exact Mod_floorOf_j40_J ok v0 v1 q2.1 q2.2
-- X11_masterOf
abbrev kMod_masterOf : Cd := (yX11_masterOf, cX11_masterOf, 5, (some .int), 5, 114)
theorem dX11_masterOf : dcheck cX11_masterOf [(0, .iconst (-1), 1), (1, .istore_n 1, 1), (2, .ldc 230, 2), (4, .istore_n 2, 1), (5, .iconst 0, 1), (6, .istore_n 3, 1), (7, .iload_n 3, 1), (8, .sipush 256, 3), (11, .if_icmp .ge 47, 3), (14, .aload_n 0, 1), (15, .iload_n 3, 1), (16, .invokevirtual 274, 3), (19, .ifCond .ne 6, 3), (22, .goto 30, 3), (25, .aload_n 0, 1), (26, .iload_n 3, 1), (27, .invokevirtual 277, 3), (30, .istore 4, 2), (32, .iload 4, 2), (34, .iconst (-1), 1), (35, .if_icmp .eq 17, 3), (38, .iload 4, 2), (40, .iload_n 2, 1), (41, .if_icmp .lt 6, 3), (44, .goto 8, 3), (47, .iload 4, 2), (49, .istore_n 2, 1), (50, .iload_n 3, 1), (51, .istore_n 1, 1), (52, .iinc 3 1, 3), (55, .goto (-48), 3), (58, .iload_n 1, 1), (59, .ireturn, 1)] = true := by decide +kernel
theorem cw_Mod_masterOf {k : Cd} (h1 : kMod_masterOf.2.2.2.2.1 + 1 ≤ k.2.2.2.2.1) (h2 : 8 + (kMod_masterOf.2.2.1 + 11) + kMod_masterOf.2.2.2.2.2 ≤ k.2.2.2.2.2) : Cw k kMod_masterOf 0 := ⟨wcode_X11_masterOf, wini_SplitProgramModel, ⟨by decide, by decide, by decide +kernel⟩, h1, h2⟩
def Mod_masterOf_j52 (v0 : Nat) (v1 : Int32) (v2 : Int32) (v3 : Int32) (h : AHeap) : Option ((Int32 × Int32 × Int32 × AHeap) ⊕ ((Int32 × Int32 × Int32 × AHeap))) :=
  some (Sum.inl (v1, v2, v3 + 1, h))
theorem Mod_masterOf_j52_J {E : JE} {l : Launch} {G : GX} {r : Option Value} {h' : AHeap} (ok : JOK E l G kMod_masterOf 0 0 r h') (v0 : Nat) (v1 : Int32) (v2 : Int32) (v3 : Int32) (h : AHeap) {Y : (Int32 × Int32 × Int32 × AHeap) ⊕ ((Int32 × Int32 × Int32 × AHeap)) → Prop} (k1 : ∀ s' : Int32 × Int32 × Int32 × AHeap, Y (.inl s') → JW E kMod_masterOf 7 [some (.ref v0), some (.int s'.1), some (.int s'.2.1), some (.int s'.2.2.1), none] [] s'.2.2.2 0 0) (kx58 : ∀ q : Int32 × Int32 × Int32 × AHeap, Y (.inr q) → JW E kMod_masterOf 58 [some (.ref v0), some (.int q.1), some (.int q.2.1), some (.int q.2.2.1), none] [] q.2.2.2 0 0) : J E kMod_masterOf (Mod_masterOf_j52 v0 v1 v2 v3 h) Y 52 [some (.ref v0), some (.int v1), some (.int v2), some (.int v3), none] [] h 0 0 := by
  unfold Mod_masterOf_j52
  refine J_iinc (v := v3 + 1) (ls' := [some (.ref v0), some (.int v1), some (.int v2), some (.int (v3 + 1)), none]) (pc' := 55) ok (dOf dX11_masterOf 29 rfl) rfl rfl (by rfl) (Nat.le_of_ble_eq_true rfl) rfl rfl ?_
  refine J_goto (tgt := 7) ok (dOf dX11_masterOf 30 rfl) (by decide) ?_
  exact J_fin (k1 (v1, v2, v3 + 1, h))
def Mod_masterOf_b7 (v0 : Nat) (s : Int32 × Int32 × Int32 × AHeap) : Option ((Int32 × Int32 × Int32 × AHeap) ⊕ ((Int32 × Int32 × Int32 × AHeap))) :=
  (if 256 ≤ s.2.2.1 then some (Sum.inr (s.1, s.2.1, s.2.2.1, s.2.2.2)) else (chk s.2.2.2 v0 11).bind fun _ => bnd2 (Mod_isPlan v0 s.2.2.1 s.2.2.2) fun x2 h1 => (if ¬ x2 = 0 then (chk h1 v0 11).bind fun _ => bnd2 (Mod_floorOf v0 s.2.2.1 h1) fun x4 h3 => (if x4 = (-1) then Mod_masterOf_j52 v0 s.1 s.2.1 s.2.2.1 h3 else (if x4 < s.2.1 then Mod_masterOf_j52 v0 s.2.2.1 x4 s.2.2.1 h3 else Mod_masterOf_j52 v0 s.1 s.2.1 s.2.2.1 h3)) else Mod_masterOf_j52 v0 s.1 s.2.1 s.2.2.1 h1))
theorem Mod_masterOf_b7_J {E : JE} {l : Launch} {G : GX} {r : Option Value} {h' : AHeap} (ok : JOK E l G kMod_masterOf 0 0 r h') (v0 : Nat) {Y : (Int32 × Int32 × Int32 × AHeap) ⊕ ((Int32 × Int32 × Int32 × AHeap)) → Prop} (k1 : ∀ s' : Int32 × Int32 × Int32 × AHeap, Y (.inl s') → JW E kMod_masterOf 7 [some (.ref v0), some (.int s'.1), some (.int s'.2.1), some (.int s'.2.2.1), none] [] s'.2.2.2 0 0) (kx58 : ∀ q : Int32 × Int32 × Int32 × AHeap, Y (.inr q) → JW E kMod_masterOf 58 [some (.ref v0), some (.int q.1), some (.int q.2.1), some (.int q.2.2.1), none] [] q.2.2.2 0 0) (s : Int32 × Int32 × Int32 × AHeap) : J E kMod_masterOf (Mod_masterOf_b7 v0 s) Y 7 [some (.ref v0), some (.int s.1), some (.int s.2.1), some (.int s.2.2.1), none] [] s.2.2.2 0 0 := by
  unfold Mod_masterOf_b7
  refine J_iload_n (pc' := 8) ok (dOf dX11_masterOf 6 rfl) rfl rfl rfl ?_
  refine J_sipush (v := 256) (pc' := 11) ok (dOf dX11_masterOf 7 rfl) rfl (by decide) ?_
  refine J_icmp_ge (tgt := 58) (pc' := 14) ok (dOf dX11_masterOf 8 rfl) rfl (by decide) ?_ ?_
  · exact J_fin (kx58 (s.1, s.2.1, s.2.2.1, s.2.2.2))
  · refine J_aload_n (pc' := 15) ok (dOf dX11_masterOf 9 rfl) rfl rfl rfl ?_
    refine J_iload_n (pc' := 16) ok (dOf dX11_masterOf 10 rfl) rfl rfl rfl ?_
    refine J_callVi (k2 := kMod_isPlan) (ci := 11) (T := TX11) (N := 29) (as := [.int s.2.2.1]) (pc' := 19) ok (dOf dX11_masterOf 11 rfl) rfl (cw_Mod_isPlan (by decide) (by decide)) wml_X11_274 winst_X11_isPlan wsel_X11_isPlan rfl ⟨Nat.le_refl 0, Nat.le_refl 0⟩ (Nat.le_of_ble_eq_true rfl) rfl (fun _ _ hf => t_Mod_isPlan hf) (fun x2 h1 => ?_)
    refine J_if_ne (tgt := 25) (pc' := 22) ok (dOf dX11_masterOf 12 rfl) rfl (by decide) ?_ ?_
    · refine J_aload_n (pc' := 26) ok (dOf dX11_masterOf 14 rfl) rfl rfl rfl ?_
      refine J_iload_n (pc' := 27) ok (dOf dX11_masterOf 15 rfl) rfl rfl rfl ?_
      refine J_callVi (k2 := kMod_floorOf) (ci := 11) (T := TX11) (N := 29) (as := [.int s.2.2.1]) (pc' := 30) ok (dOf dX11_masterOf 16 rfl) rfl (cw_Mod_floorOf (by decide) (by decide)) wml_X11_277 winst_X11_floorOf wsel_X11_floorOf rfl ⟨Nat.le_refl 0, Nat.le_refl 0⟩ (Nat.le_of_ble_eq_true rfl) rfl (fun _ _ hf => t_Mod_floorOf hf) (fun x4 h3 => ?_)
      refine J_istore (ls' := [some (.ref v0), some (.int s.1), some (.int s.2.1), some (.int s.2.2.1), some (.int x4)]) (pc' := 32) ok (dOf dX11_masterOf 17 rfl) rfl (Nat.le_of_ble_eq_true rfl) rfl rfl ?_
      refine J_iload (pc' := 34) ok (dOf dX11_masterOf 18 rfl) rfl rfl ?_
      refine J_iconst (v := (-1)) (pc' := 35) ok (dOf dX11_masterOf 19 rfl) rfl (by decide) ?_
      refine J_icmp_eq (tgt := 52) (pc' := 38) ok (dOf dX11_masterOf 20 rfl) rfl (by decide) ?_ ?_
      · refine J_weak (ls' := [some (.ref v0), some (.int s.1), some (.int s.2.1), some (.int s.2.2.1), none]) ⟨rfl, rfl, rfl, rfl, trivial⟩ ?_
        exact Mod_masterOf_j52_J ok v0 s.1 s.2.1 s.2.2.1 h3 k1 kx58
      · refine J_iload (pc' := 40) ok (dOf dX11_masterOf 21 rfl) rfl rfl ?_
        refine J_iload_n (pc' := 41) ok (dOf dX11_masterOf 22 rfl) rfl rfl rfl ?_
        refine J_icmp_lt (tgt := 47) (pc' := 44) ok (dOf dX11_masterOf 23 rfl) rfl (by decide) ?_ ?_
        · refine J_iload (pc' := 49) ok (dOf dX11_masterOf 25 rfl) rfl rfl ?_
          refine J_istore_n (ls' := [some (.ref v0), some (.int s.1), some (.int x4), some (.int s.2.2.1), some (.int x4)]) (pc' := 50) ok (dOf dX11_masterOf 26 rfl) rfl rfl (Nat.le_of_ble_eq_true rfl) rfl rfl ?_
          refine J_iload_n (pc' := 51) ok (dOf dX11_masterOf 27 rfl) rfl rfl rfl ?_
          refine J_istore_n (ls' := [some (.ref v0), some (.int s.2.2.1), some (.int x4), some (.int s.2.2.1), some (.int x4)]) (pc' := 52) ok (dOf dX11_masterOf 28 rfl) rfl rfl (Nat.le_of_ble_eq_true rfl) rfl rfl ?_
          refine J_weak (ls' := [some (.ref v0), some (.int s.2.2.1), some (.int x4), some (.int s.2.2.1), none]) ⟨rfl, rfl, rfl, rfl, trivial⟩ ?_
          exact Mod_masterOf_j52_J ok v0 s.2.2.1 x4 s.2.2.1 h3 k1 kx58
        · refine J_goto (tgt := 52) ok (dOf dX11_masterOf 24 rfl) (by decide) ?_
          refine J_weak (ls' := [some (.ref v0), some (.int s.1), some (.int s.2.1), some (.int s.2.2.1), none]) ⟨rfl, rfl, rfl, rfl, trivial⟩ ?_
          exact Mod_masterOf_j52_J ok v0 s.1 s.2.1 s.2.2.1 h3 k1 kx58
    · refine J_goto (tgt := 52) ok (dOf dX11_masterOf 13 rfl) (by decide) ?_
      exact Mod_masterOf_j52_J ok v0 s.1 s.2.1 s.2.2.1 h1 k1 kx58
def Mod_masterOf_j58 (v0 : Nat) (v1 : Int32) (v2 : Int32) (v3 : Int32) (h : AHeap) : Option (Int32 × AHeap) :=
  some (v1, h)
theorem Mod_masterOf_j58_J {E : JE} {l : Launch} {G : GX} {v : Int32} {h' : AHeap} (ok : JOK E l G kMod_masterOf 0 0 (some (.int v)) h') (v0 : Nat) (v1 : Int32) (v2 : Int32) (v3 : Int32) (h : AHeap) : J E kMod_masterOf (Mod_masterOf_j58 v0 v1 v2 v3 h) (fun z => z = (v, h')) 58 [some (.ref v0), some (.int v1), some (.int v2), some (.int v3), none] [] h 0 0 := by
  unfold Mod_masterOf_j58
  refine J_iload_n (pc' := 59) ok (dOf dX11_masterOf 31 rfl) rfl rfl rfl ?_
  exact J_ireturn ok (dOf dX11_masterOf 32 rfl) rfl (Eq.refl 0) (Nat.le_refl 0)
def Mod_masterOf (v0 : Nat) (h : AHeap) : Option (Int32 × AHeap) :=
  (iter (Mod_masterOf_b7 v0) Lmax ((-1), 1000000000, 0, h)).bind (fun (q7 : Int32 × Int32 × Int32 × AHeap) => Mod_masterOf_j58 v0 q7.1 q7.2.1 q7.2.2.1 q7.2.2.2)
theorem t_Mod_masterOf {l : Launch} {G : GX} {v0 : Nat} {h : AHeap} {v : Int32} {h1 : AHeap} (hf : Mod_masterOf v0 h = some (v, h1)) : CT l G kMod_masterOf 0 0 [.ref v0] h (some (.int v)) h1 := by
  refine CT_of (ls := [some (.ref v0), none, none, none, none]) (Z := fun z => z = (v, h1)) (by decide +kernel) (Nat.le_of_ble_eq_true rfl) hf rfl ⟨rfl, trivial⟩ (fun E ok => ?_)
  unfold Mod_masterOf
  refine J_iconst (v := (-1)) (pc' := 1) ok (dOf dX11_masterOf 0 rfl) rfl (by decide) ?_
  refine J_istore_n (ls' := [some (.ref v0), some (.int (-1)), none, none, none]) (pc' := 2) ok (dOf dX11_masterOf 1 rfl) rfl rfl (Nat.le_of_ble_eq_true rfl) rfl rfl ?_
  refine J_ldc (v := 1000000000) (pc' := 4) ok (dOf dX11_masterOf 2 rfl) rfl wcon_X11_230 ?_
  refine J_istore_n (ls' := [some (.ref v0), some (.int (-1)), some (.int 1000000000), none, none]) (pc' := 5) ok (dOf dX11_masterOf 3 rfl) rfl rfl (Nat.le_of_ble_eq_true rfl) rfl rfl ?_
  refine J_iconst (v := 0) (pc' := 6) ok (dOf dX11_masterOf 4 rfl) rfl (by decide) ?_
  refine J_istore_n (ls' := [some (.ref v0), some (.int (-1)), some (.int 1000000000), some (.int 0), none]) (pc' := 7) ok (dOf dX11_masterOf 5 rfl) rfl rfl (Nat.le_of_ble_eq_true rfl) rfl rfl ?_
  refine J_iter (lf := fun z7 => [some (.ref v0), some (.int z7.1), some (.int z7.2.1), some (.int z7.2.2.1), none]) (sf := fun _ => []) (hf := fun z7 => z7.2.2.2) (px := (fun (q7 : Int32 × Int32 × Int32 × AHeap) => 58)) (lx := (fun (q7 : Int32 × Int32 × Int32 × AHeap) => [some (.ref v0), some (.int q7.1), some (.int q7.2.1), some (.int q7.2.2.1), none])) (sx := (fun (q7 : Int32 × Int32 × Int32 × AHeap) => [])) (hx := (fun (q7 : Int32 × Int32 × Int32 × AHeap) => q7.2.2.2)) (fun Y2 z7 m1 m2 => Mod_masterOf_b7_J ok v0 m1 m2 z7) (fun q7 => ?_) Lmax _
  exact Mod_masterOf_j58_J ok v0 q7.1 q7.2.1 q7.2.2.1 q7.2.2.2
-- X11_ages
abbrev kMod_ages : Cd := (yX11_ages, cX11_ages, 5, none, 4, 91)
theorem dX11_ages : dcheck cX11_ages [(0, .iconst 0, 1), (1, .istore_n 2, 1), (2, .iload_n 2, 1), (3, .aload_n 0, 1), (4, .getfield 22, 3), (7, .bipush 9, 2), (9, .iaload, 1), (10, .if_icmp .ge 101, 3), (13, .aload_n 0, 1), (14, .iload_n 2, 1), (15, .iload_n 1, 1), (16, .invokevirtual 255, 3), (19, .aload_n 0, 1), (20, .iload_n 2, 1), (21, .iconst 1, 1), (22, .invokevirtual 252, 3), (25, .iconst 1, 1), (26, .if_icmp .ne 7, 3), (29, .iconst 0, 1), (30, .goto 14, 3), (33, .aload_n 0, 1), (34, .aload_n 0, 1), (35, .iload_n 2, 1), (36, .iconst 0, 1), (37, .invokevirtual 252, 3), (40, .iload_n 1, 1), (41, .invokevirtual 261, 3), (44, .if_icmp .ne 7, 3), (47, .iconst 1, 1), (48, .goto 4, 3), (51, .iconst 0, 1), (52, .istore_n 3, 1), (53, .bipush 75, 2), (55, .bipush 13, 2), (57, .iload_n 2, 1), (58, .imul, 1), (59, .iadd, 1), (60, .iconst 2, 1), (61, .iadd, 1), (62, .istore 4, 2), (64, .aload_n 0, 1), (65, .getfield 22, 3), (68, .iload 4, 2), (70, .iload_n 3, 1), (71, .ifCond .eq 7, 3), (74, .iconst 0, 1), (75, .goto 29, 3), (78, .aload_n 0, 1), (79, .getfield 22, 3), (82, .iload 4, 2), (84, .iaload, 1), (85, .bipush 99, 2), (87, .if_icmp .ge 15, 3), (90, .aload_n 0, 1), (91, .getfield 22, 3), (94, .iload 4, 2), (96, .iaload, 1), (97, .iconst 1, 1), (98, .iadd, 1), (99, .goto 5, 3), (102, .bipush 99, 2), (104, .iastore, 1), (105, .iinc 2 1, 3), (108, .goto (-106), 3), (111, .return_, 1)] = true := by decide +kernel
theorem cw_Mod_ages {k : Cd} (h1 : kMod_ages.2.2.2.2.1 + 1 ≤ k.2.2.2.2.1) (h2 : 8 + (kMod_ages.2.2.1 + 11) + kMod_ages.2.2.2.2.2 ≤ k.2.2.2.2.2) : Cw k kMod_ages 1 := ⟨wcode_X11_ages, wini_SplitProgramModel, ⟨by decide, by decide, by decide +kernel⟩, h1, h2⟩
def Mod_ages_j104 (v0 : Nat) (v1 : Int32) (v2 : Int32) (v3 : Int32) (v4 : Int32) (t0 : Nat) (t1 : Int32) (t2 : Int32) (h : AHeap) : Option ((Int32 × AHeap) ⊕ ((Int32 × AHeap))) :=
  (ast 0 h t0 t1 t2).bind fun h14 => some (Sum.inl (v2 + 1, h14))
theorem Mod_ages_j104_J {E : JE} {l : Launch} {G : GX} {r : Option Value} {h' : AHeap} (ok : JOK E l G kMod_ages 0 0 r h') (v0 : Nat) (v1 : Int32) (v2 : Int32) (v3 : Int32) (v4 : Int32) (t0 : Nat) (t1 : Int32) (t2 : Int32) (h : AHeap) {Y : (Int32 × AHeap) ⊕ ((Int32 × AHeap)) → Prop} (k1 : ∀ s' : Int32 × AHeap, Y (.inl s') → JW E kMod_ages 2 [some (.ref v0), some (.int v1), some (.int s'.1), none, none] [] s'.2 0 0) (kx111 : ∀ q : Int32 × AHeap, Y (.inr q) → JW E kMod_ages 111 [some (.ref v0), some (.int v1), some (.int q.1), none, none] [] q.2 0 0) : J E kMod_ages (Mod_ages_j104 v0 v1 v2 v3 v4 t0 t1 t2 h) Y 104 [some (.ref v0), some (.int v1), some (.int v2), some (.int v3), some (.int v4)] [.int t2, .int t1, .ref t0] h 0 0 := by
  unfold Mod_ages_j104
  refine J_iast (pc' := 105) ok (dOf dX11_ages 61 rfl) rfl (fun h14 _ => ?_)
  refine J_iinc (v := v2 + 1) (ls' := [some (.ref v0), some (.int v1), some (.int (v2 + 1)), some (.int v3), some (.int v4)]) (pc' := 108) ok (dOf dX11_ages 62 rfl) rfl rfl (by rfl) (Nat.le_of_ble_eq_true rfl) rfl rfl ?_
  refine J_goto (tgt := 2) ok (dOf dX11_ages 63 rfl) (by decide) ?_
  refine J_weak (ls' := [some (.ref v0), some (.int v1), some (.int (v2 + 1)), none, none]) ⟨rfl, rfl, rfl, trivial⟩ ?_
  exact J_fin (k1 (v2 + 1, h14))
def Mod_ages_j52 (v0 : Nat) (v1 : Int32) (v2 : Int32) (t0 : Int32) (h : AHeap) : Option ((Int32 × AHeap) ⊕ ((Int32 × AHeap))) :=
  (gfR h v0 11 5).bind fun a11 => (if t0 = 0 then (gfR h v0 11 5).bind fun a12 => (ald 0 h a12 ((75 + (13 * v2)) + 2)).bind fun x13 => (if 99 ≤ x13 then Mod_ages_j104 v0 v1 v2 t0 ((75 + (13 * v2)) + 2) a11 ((75 + (13 * v2)) + 2) 99 h else (gfR h v0 11 5).bind fun a15 => (ald 0 h a15 ((75 + (13 * v2)) + 2)).bind fun x16 => Mod_ages_j104 v0 v1 v2 t0 ((75 + (13 * v2)) + 2) a11 ((75 + (13 * v2)) + 2) (x16 + 1) h) else Mod_ages_j104 v0 v1 v2 t0 ((75 + (13 * v2)) + 2) a11 ((75 + (13 * v2)) + 2) 0 h)
theorem Mod_ages_j52_J {E : JE} {l : Launch} {G : GX} {r : Option Value} {h' : AHeap} (ok : JOK E l G kMod_ages 0 0 r h') (v0 : Nat) (v1 : Int32) (v2 : Int32) (t0 : Int32) (h : AHeap) {Y : (Int32 × AHeap) ⊕ ((Int32 × AHeap)) → Prop} (k1 : ∀ s' : Int32 × AHeap, Y (.inl s') → JW E kMod_ages 2 [some (.ref v0), some (.int v1), some (.int s'.1), none, none] [] s'.2 0 0) (kx111 : ∀ q : Int32 × AHeap, Y (.inr q) → JW E kMod_ages 111 [some (.ref v0), some (.int v1), some (.int q.1), none, none] [] q.2 0 0) : J E kMod_ages (Mod_ages_j52 v0 v1 v2 t0 h) Y 52 [some (.ref v0), some (.int v1), some (.int v2), none, none] [.int t0] h 0 0 := by
  unfold Mod_ages_j52
  refine J_istore_n (ls' := [some (.ref v0), some (.int v1), some (.int v2), some (.int t0), none]) (pc' := 53) ok (dOf dX11_ages 31 rfl) rfl rfl (Nat.le_of_ble_eq_true rfl) rfl rfl ?_
  refine J_bipush (v := 75) (pc' := 55) ok (dOf dX11_ages 32 rfl) rfl (by decide) ?_
  refine J_bipush (v := 13) (pc' := 57) ok (dOf dX11_ages 33 rfl) rfl (by decide) ?_
  refine J_iload_n (pc' := 58) ok (dOf dX11_ages 34 rfl) rfl rfl rfl ?_
  refine J_imul (pc' := 59) ok (dOf dX11_ages 35 rfl) rfl ?_
  refine J_iadd (pc' := 60) ok (dOf dX11_ages 36 rfl) rfl ?_
  refine J_iconst (v := 2) (pc' := 61) ok (dOf dX11_ages 37 rfl) rfl (by decide) ?_
  refine J_iadd (pc' := 62) ok (dOf dX11_ages 38 rfl) rfl ?_
  refine J_istore (ls' := [some (.ref v0), some (.int v1), some (.int v2), some (.int t0), some (.int ((75 + (13 * v2)) + 2))]) (pc' := 64) ok (dOf dX11_ages 39 rfl) rfl (Nat.le_of_ble_eq_true rfl) rfl rfl ?_
  refine J_aload_n (pc' := 65) ok (dOf dX11_ages 40 rfl) rfl rfl rfl ?_
  refine J_getR (ci := 11) (kf := 5) (C := RX11) (T := TX11) (N := 29) (pc' := 68) ok (dOf dX11_ages 41 rfl) rfl (by decide) rfl (by decide) win_11 wfl_X11_22 (fun a11 => ?_)
  refine J_iload (pc' := 70) ok (dOf dX11_ages 42 rfl) rfl rfl ?_
  refine J_iload_n (pc' := 71) ok (dOf dX11_ages 43 rfl) rfl rfl rfl ?_
  refine J_if_eq (tgt := 78) (pc' := 74) ok (dOf dX11_ages 44 rfl) rfl (by decide) ?_ ?_
  · refine J_aload_n (pc' := 79) ok (dOf dX11_ages 47 rfl) rfl rfl rfl ?_
    refine J_getR (ci := 11) (kf := 5) (C := RX11) (T := TX11) (N := 29) (pc' := 82) ok (dOf dX11_ages 48 rfl) rfl (by decide) rfl (by decide) win_11 wfl_X11_22 (fun a12 => ?_)
    refine J_iload (pc' := 84) ok (dOf dX11_ages 49 rfl) rfl rfl ?_
    refine J_iald (pc' := 85) ok (dOf dX11_ages 50 rfl) rfl (fun x13 => ?_)
    refine J_bipush (v := 99) (pc' := 87) ok (dOf dX11_ages 51 rfl) rfl (by decide) ?_
    refine J_icmp_ge (tgt := 102) (pc' := 90) ok (dOf dX11_ages 52 rfl) rfl (by decide) ?_ ?_
    · refine J_bipush (v := 99) (pc' := 104) ok (dOf dX11_ages 60 rfl) rfl (by decide) ?_
      exact Mod_ages_j104_J ok v0 v1 v2 t0 ((75 + (13 * v2)) + 2) a11 ((75 + (13 * v2)) + 2) 99 h k1 kx111
    · refine J_aload_n (pc' := 91) ok (dOf dX11_ages 53 rfl) rfl rfl rfl ?_
      refine J_getR (ci := 11) (kf := 5) (C := RX11) (T := TX11) (N := 29) (pc' := 94) ok (dOf dX11_ages 54 rfl) rfl (by decide) rfl (by decide) win_11 wfl_X11_22 (fun a15 => ?_)
      refine J_iload (pc' := 96) ok (dOf dX11_ages 55 rfl) rfl rfl ?_
      refine J_iald (pc' := 97) ok (dOf dX11_ages 56 rfl) rfl (fun x16 => ?_)
      refine J_iconst (v := 1) (pc' := 98) ok (dOf dX11_ages 57 rfl) rfl (by decide) ?_
      refine J_iadd (pc' := 99) ok (dOf dX11_ages 58 rfl) rfl ?_
      refine J_goto (tgt := 104) ok (dOf dX11_ages 59 rfl) (by decide) ?_
      exact Mod_ages_j104_J ok v0 v1 v2 t0 ((75 + (13 * v2)) + 2) a11 ((75 + (13 * v2)) + 2) (x16 + 1) h k1 kx111
  · refine J_iconst (v := 0) (pc' := 75) ok (dOf dX11_ages 45 rfl) rfl (by decide) ?_
    refine J_goto (tgt := 104) ok (dOf dX11_ages 46 rfl) (by decide) ?_
    exact Mod_ages_j104_J ok v0 v1 v2 t0 ((75 + (13 * v2)) + 2) a11 ((75 + (13 * v2)) + 2) 0 h k1 kx111
def Mod_ages_j44 (v0 : Nat) (v1 : Int32) (v2 : Int32) (t0 : Int32) (t1 : Int32) (h : AHeap) : Option ((Int32 × AHeap) ⊕ ((Int32 × AHeap))) :=
  (if ¬ t0 = t1 then Mod_ages_j52 v0 v1 v2 0 h else Mod_ages_j52 v0 v1 v2 1 h)
theorem Mod_ages_j44_J {E : JE} {l : Launch} {G : GX} {r : Option Value} {h' : AHeap} (ok : JOK E l G kMod_ages 0 0 r h') (v0 : Nat) (v1 : Int32) (v2 : Int32) (t0 : Int32) (t1 : Int32) (h : AHeap) {Y : (Int32 × AHeap) ⊕ ((Int32 × AHeap)) → Prop} (k1 : ∀ s' : Int32 × AHeap, Y (.inl s') → JW E kMod_ages 2 [some (.ref v0), some (.int v1), some (.int s'.1), none, none] [] s'.2 0 0) (kx111 : ∀ q : Int32 × AHeap, Y (.inr q) → JW E kMod_ages 111 [some (.ref v0), some (.int v1), some (.int q.1), none, none] [] q.2 0 0) : J E kMod_ages (Mod_ages_j44 v0 v1 v2 t0 t1 h) Y 44 [some (.ref v0), some (.int v1), some (.int v2), none, none] [.int t1, .int t0] h 0 0 := by
  unfold Mod_ages_j44
  refine J_icmp_ne (tgt := 51) (pc' := 47) ok (dOf dX11_ages 27 rfl) rfl (by decide) ?_ ?_
  · refine J_iconst (v := 0) (pc' := 52) ok (dOf dX11_ages 30 rfl) rfl (by decide) ?_
    exact Mod_ages_j52_J ok v0 v1 v2 0 h k1 kx111
  · refine J_iconst (v := 1) (pc' := 48) ok (dOf dX11_ages 28 rfl) rfl (by decide) ?_
    refine J_goto (tgt := 52) ok (dOf dX11_ages 29 rfl) (by decide) ?_
    exact Mod_ages_j52_J ok v0 v1 v2 1 h k1 kx111
def Mod_ages_b2 (v0 : Nat) (v1 : Int32) (s : Int32 × AHeap) : Option ((Int32 × AHeap) ⊕ ((Int32 × AHeap))) :=
  (gfR s.2 v0 11 5).bind fun a1 => (ald 0 s.2 a1 9).bind fun x2 => (if x2 ≤ s.1 then some (Sum.inr (s.1, s.2)) else (chk s.2 v0 11).bind fun _ => bnd2 (Mod_toldBy v0 s.1 v1 s.2) fun x4 h3 => (chk h3 v0 11).bind fun _ => bnd2 (Mod_ofCut v0 s.1 1 h3) fun x6 h5 => (if ¬ x6 = 1 then (chk h5 v0 11).bind fun _ => bnd2 (Mod_ofCut v0 s.1 0 h5) fun x8 h7 => (chk h7 v0 11).bind fun _ => bnd2 (Mod_reachBy v0 x8 v1 h7) fun x10 h9 => Mod_ages_j44 v0 v1 s.1 x4 x10 h9 else Mod_ages_j44 v0 v1 s.1 x4 0 h5))
theorem Mod_ages_b2_J {E : JE} {l : Launch} {G : GX} {r : Option Value} {h' : AHeap} (ok : JOK E l G kMod_ages 0 0 r h') (v0 : Nat) (v1 : Int32) {Y : (Int32 × AHeap) ⊕ ((Int32 × AHeap)) → Prop} (k1 : ∀ s' : Int32 × AHeap, Y (.inl s') → JW E kMod_ages 2 [some (.ref v0), some (.int v1), some (.int s'.1), none, none] [] s'.2 0 0) (kx111 : ∀ q : Int32 × AHeap, Y (.inr q) → JW E kMod_ages 111 [some (.ref v0), some (.int v1), some (.int q.1), none, none] [] q.2 0 0) (s : Int32 × AHeap) : J E kMod_ages (Mod_ages_b2 v0 v1 s) Y 2 [some (.ref v0), some (.int v1), some (.int s.1), none, none] [] s.2 0 0 := by
  unfold Mod_ages_b2
  refine J_iload_n (pc' := 3) ok (dOf dX11_ages 2 rfl) rfl rfl rfl ?_
  refine J_aload_n (pc' := 4) ok (dOf dX11_ages 3 rfl) rfl rfl rfl ?_
  refine J_getR (ci := 11) (kf := 5) (C := RX11) (T := TX11) (N := 29) (pc' := 7) ok (dOf dX11_ages 4 rfl) rfl (by decide) rfl (by decide) win_11 wfl_X11_22 (fun a1 => ?_)
  refine J_bipush (v := 9) (pc' := 9) ok (dOf dX11_ages 5 rfl) rfl (by decide) ?_
  refine J_iald (pc' := 10) ok (dOf dX11_ages 6 rfl) rfl (fun x2 => ?_)
  refine J_icmp_ge (tgt := 111) (pc' := 13) ok (dOf dX11_ages 7 rfl) rfl (by decide) ?_ ?_
  · exact J_fin (kx111 (s.1, s.2))
  · refine J_aload_n (pc' := 14) ok (dOf dX11_ages 8 rfl) rfl rfl rfl ?_
    refine J_iload_n (pc' := 15) ok (dOf dX11_ages 9 rfl) rfl rfl rfl ?_
    refine J_iload_n (pc' := 16) ok (dOf dX11_ages 10 rfl) rfl rfl rfl ?_
    refine J_callVi (k2 := kMod_toldBy) (ci := 11) (T := TX11) (N := 29) (as := [.int s.1, .int v1]) (pc' := 19) ok (dOf dX11_ages 11 rfl) rfl (cw_Mod_toldBy (by decide) (by decide)) wml_X11_255 winst_X11_toldBy wsel_X11_toldBy rfl ⟨Nat.le_refl 0, Nat.le_refl 0⟩ (Nat.le_of_ble_eq_true rfl) rfl (fun _ _ hf => t_Mod_toldBy hf) (fun x4 h3 => ?_)
    refine J_aload_n (pc' := 20) ok (dOf dX11_ages 12 rfl) rfl rfl rfl ?_
    refine J_iload_n (pc' := 21) ok (dOf dX11_ages 13 rfl) rfl rfl rfl ?_
    refine J_iconst (v := 1) (pc' := 22) ok (dOf dX11_ages 14 rfl) rfl (by decide) ?_
    refine J_callVi (k2 := kMod_ofCut) (ci := 11) (T := TX11) (N := 29) (as := [.int s.1, .int 1]) (pc' := 25) ok (dOf dX11_ages 15 rfl) rfl (cw_Mod_ofCut (by decide) (by decide)) wml_X11_252 winst_X11_ofCut wsel_X11_ofCut rfl ⟨Nat.le_refl 0, Nat.le_refl 0⟩ (Nat.le_of_ble_eq_true rfl) rfl (fun _ _ hf => t_Mod_ofCut hf) (fun x6 h5 => ?_)
    refine J_iconst (v := 1) (pc' := 26) ok (dOf dX11_ages 16 rfl) rfl (by decide) ?_
    refine J_icmp_ne (tgt := 33) (pc' := 29) ok (dOf dX11_ages 17 rfl) rfl (by decide) ?_ ?_
    · refine J_aload_n (pc' := 34) ok (dOf dX11_ages 20 rfl) rfl rfl rfl ?_
      refine J_aload_n (pc' := 35) ok (dOf dX11_ages 21 rfl) rfl rfl rfl ?_
      refine J_iload_n (pc' := 36) ok (dOf dX11_ages 22 rfl) rfl rfl rfl ?_
      refine J_iconst (v := 0) (pc' := 37) ok (dOf dX11_ages 23 rfl) rfl (by decide) ?_
      refine J_callVi (k2 := kMod_ofCut) (ci := 11) (T := TX11) (N := 29) (as := [.int s.1, .int 0]) (pc' := 40) ok (dOf dX11_ages 24 rfl) rfl (cw_Mod_ofCut (by decide) (by decide)) wml_X11_252 winst_X11_ofCut wsel_X11_ofCut rfl ⟨Nat.le_refl 0, Nat.le_refl 0⟩ (Nat.le_of_ble_eq_true rfl) rfl (fun _ _ hf => t_Mod_ofCut hf) (fun x8 h7 => ?_)
      refine J_iload_n (pc' := 41) ok (dOf dX11_ages 25 rfl) rfl rfl rfl ?_
      refine J_callVi (k2 := kMod_reachBy) (ci := 11) (T := TX11) (N := 29) (as := [.int x8, .int v1]) (pc' := 44) ok (dOf dX11_ages 26 rfl) rfl (cw_Mod_reachBy (by decide) (by decide)) wml_X11_261 winst_X11_reachBy wsel_X11_reachBy rfl ⟨Nat.le_refl 0, Nat.le_refl 0⟩ (Nat.le_of_ble_eq_true rfl) rfl (fun _ _ hf => t_Mod_reachBy hf) (fun x10 h9 => ?_)
      exact Mod_ages_j44_J ok v0 v1 s.1 x4 x10 h9 k1 kx111
    · refine J_iconst (v := 0) (pc' := 30) ok (dOf dX11_ages 18 rfl) rfl (by decide) ?_
      refine J_goto (tgt := 44) ok (dOf dX11_ages 19 rfl) (by decide) ?_
      exact Mod_ages_j44_J ok v0 v1 s.1 x4 0 h5 k1 kx111
def Mod_ages_j111 (v0 : Nat) (v1 : Int32) (v2 : Int32) (h : AHeap) : Option (Unit × AHeap) :=
  some ((), h)
theorem Mod_ages_j111_J {E : JE} {l : Launch} {G : GX} {h' : AHeap} (ok : JOK E l G kMod_ages 0 0 none h') (v0 : Nat) (v1 : Int32) (v2 : Int32) (h : AHeap) : J E kMod_ages (Mod_ages_j111 v0 v1 v2 h) (fun z => z = ((), h')) 111 [some (.ref v0), some (.int v1), some (.int v2), none, none] [] h 0 0 := by
  unfold Mod_ages_j111
  exact J_vreturn ok (dOf dX11_ages 64 rfl) rfl (Eq.refl 0) (Nat.le_refl 0)
def Mod_ages (v0 : Nat) (v1 : Int32) (h : AHeap) : Option (Unit × AHeap) :=
  (iter (Mod_ages_b2 v0 v1) Lmax (0, h)).bind (fun (q2 : Int32 × AHeap) => Mod_ages_j111 v0 v1 q2.1 q2.2)
theorem t_Mod_ages {l : Launch} {G : GX} {v0 : Nat} {v1 : Int32} {h : AHeap} {h1 : AHeap} (hf : Mod_ages v0 v1 h = some ((), h1)) : CT l G kMod_ages 0 0 [.ref v0, .int v1] h none h1 := by
  refine CT_of (ls := [some (.ref v0), some (.int v1), none, none, none]) (Z := fun z => z = ((), h1)) (by decide +kernel) (Nat.le_of_ble_eq_true rfl) hf rfl ⟨rfl, rfl, trivial⟩ (fun E ok => ?_)
  unfold Mod_ages
  refine J_iconst (v := 0) (pc' := 1) ok (dOf dX11_ages 0 rfl) rfl (by decide) ?_
  refine J_istore_n (ls' := [some (.ref v0), some (.int v1), some (.int 0), none, none]) (pc' := 2) ok (dOf dX11_ages 1 rfl) rfl rfl (Nat.le_of_ble_eq_true rfl) rfl rfl ?_
  refine J_iter (lf := fun z2 => [some (.ref v0), some (.int v1), some (.int z2.1), none, none]) (sf := fun _ => []) (hf := fun z2 => z2.2) (px := (fun (q2 : Int32 × AHeap) => 111)) (lx := (fun (q2 : Int32 × AHeap) => [some (.ref v0), some (.int v1), some (.int q2.1), none, none])) (sx := (fun (q2 : Int32 × AHeap) => [])) (hx := (fun (q2 : Int32 × AHeap) => q2.2)) (fun Y2 z2 m1 m2 => Mod_ages_b2_J ok v0 v1 m1 m2 z2) (fun q2 => ?_) Lmax _
  exact Mod_ages_j111_J ok v0 v1 q2.1 q2.2
-- X11_needsOf
abbrev kMod_needsOf : Cd := (yX11_needsOf, cX11_needsOf, 5, (some .int), 1, 22)
theorem dX11_needsOf : dcheck cX11_needsOf [(0, .iconst 0, 1), (1, .istore_n 3, 1), (2, .iconst 0, 1), (3, .istore 4, 2), (5, .iload 4, 2), (7, .bipush 6, 2), (9, .if_icmp .ge 33, 3), (12, .iload_n 3, 1), (13, .iload_n 2, 1), (14, .iload 4, 2), (16, .ishr, 1), (17, .iconst 1, 1), (18, .iand, 1), (19, .iconst 1, 1), (20, .if_icmp .ne 13, 3), (23, .aload_n 0, 1), (24, .iload_n 1, 1), (25, .iload 4, 2), (27, .invokevirtual 212, 3), (30, .goto 4, 3), (33, .iconst 0, 1), (34, .iadd, 1), (35, .istore_n 3, 1), (36, .iinc 4 1, 3), (39, .goto (-34), 3), (42, .iload_n 3, 1), (43, .ireturn, 1)] = true := by decide +kernel
theorem cw_Mod_needsOf {k : Cd} (h1 : kMod_needsOf.2.2.2.2.1 + 1 ≤ k.2.2.2.2.1) (h2 : 8 + (kMod_needsOf.2.2.1 + 11) + kMod_needsOf.2.2.2.2.2 ≤ k.2.2.2.2.2) : Cw k kMod_needsOf 2 := ⟨wcode_X11_needsOf, wini_SplitProgramModel, ⟨by decide, by decide, by decide +kernel⟩, h1, h2⟩
def Mod_needsOf_j34 (v0 : Nat) (v1 : Int32) (v2 : Int32) (v3 : Int32) (v4 : Int32) (t0 : Int32) (t1 : Int32) (h : AHeap) : Option ((Int32 × Int32 × AHeap) ⊕ ((Int32 × Int32 × AHeap))) :=
  some (Sum.inl (t0 + t1, v4 + 1, h))
theorem Mod_needsOf_j34_J {E : JE} {l : Launch} {G : GX} {r : Option Value} {h' : AHeap} (ok : JOK E l G kMod_needsOf 0 0 r h') (v0 : Nat) (v1 : Int32) (v2 : Int32) (v3 : Int32) (v4 : Int32) (t0 : Int32) (t1 : Int32) (h : AHeap) {Y : (Int32 × Int32 × AHeap) ⊕ ((Int32 × Int32 × AHeap)) → Prop} (k1 : ∀ s' : Int32 × Int32 × AHeap, Y (.inl s') → JW E kMod_needsOf 5 [some (.ref v0), some (.int v1), some (.int v2), some (.int s'.1), some (.int s'.2.1)] [] s'.2.2 0 0) (kx42 : ∀ q : Int32 × Int32 × AHeap, Y (.inr q) → JW E kMod_needsOf 42 [some (.ref v0), some (.int v1), some (.int v2), some (.int q.1), some (.int q.2.1)] [] q.2.2 0 0) : J E kMod_needsOf (Mod_needsOf_j34 v0 v1 v2 v3 v4 t0 t1 h) Y 34 [some (.ref v0), some (.int v1), some (.int v2), some (.int v3), some (.int v4)] [.int t1, .int t0] h 0 0 := by
  unfold Mod_needsOf_j34
  refine J_iadd (pc' := 35) ok (dOf dX11_needsOf 21 rfl) rfl ?_
  refine J_istore_n (ls' := [some (.ref v0), some (.int v1), some (.int v2), some (.int (t0 + t1)), some (.int v4)]) (pc' := 36) ok (dOf dX11_needsOf 22 rfl) rfl rfl (Nat.le_of_ble_eq_true rfl) rfl rfl ?_
  refine J_iinc (v := v4 + 1) (ls' := [some (.ref v0), some (.int v1), some (.int v2), some (.int (t0 + t1)), some (.int (v4 + 1))]) (pc' := 39) ok (dOf dX11_needsOf 23 rfl) rfl rfl (by rfl) (Nat.le_of_ble_eq_true rfl) rfl rfl ?_
  refine J_goto (tgt := 5) ok (dOf dX11_needsOf 24 rfl) (by decide) ?_
  exact J_fin (k1 (t0 + t1, v4 + 1, h))
def Mod_needsOf_b5 (v0 : Nat) (v1 : Int32) (v2 : Int32) (s : Int32 × Int32 × AHeap) : Option ((Int32 × Int32 × AHeap) ⊕ ((Int32 × Int32 × AHeap))) :=
  (if 6 ≤ s.2.1 then some (Sum.inr (s.1, s.2.1, s.2.2)) else (if ¬ ((v2 >>> (s.2.1 &&& 31)) &&& 1) = 1 then Mod_needsOf_j34 v0 v1 v2 s.1 s.2.1 s.1 0 s.2.2 else (chk s.2.2 v0 11).bind fun _ => bnd2 (Mod_needOf v0 v1 s.2.1 s.2.2) fun x2 h1 => Mod_needsOf_j34 v0 v1 v2 s.1 s.2.1 s.1 x2 h1))
theorem Mod_needsOf_b5_J {E : JE} {l : Launch} {G : GX} {r : Option Value} {h' : AHeap} (ok : JOK E l G kMod_needsOf 0 0 r h') (v0 : Nat) (v1 : Int32) (v2 : Int32) {Y : (Int32 × Int32 × AHeap) ⊕ ((Int32 × Int32 × AHeap)) → Prop} (k1 : ∀ s' : Int32 × Int32 × AHeap, Y (.inl s') → JW E kMod_needsOf 5 [some (.ref v0), some (.int v1), some (.int v2), some (.int s'.1), some (.int s'.2.1)] [] s'.2.2 0 0) (kx42 : ∀ q : Int32 × Int32 × AHeap, Y (.inr q) → JW E kMod_needsOf 42 [some (.ref v0), some (.int v1), some (.int v2), some (.int q.1), some (.int q.2.1)] [] q.2.2 0 0) (s : Int32 × Int32 × AHeap) : J E kMod_needsOf (Mod_needsOf_b5 v0 v1 v2 s) Y 5 [some (.ref v0), some (.int v1), some (.int v2), some (.int s.1), some (.int s.2.1)] [] s.2.2 0 0 := by
  unfold Mod_needsOf_b5
  refine J_iload (pc' := 7) ok (dOf dX11_needsOf 4 rfl) rfl rfl ?_
  refine J_bipush (v := 6) (pc' := 9) ok (dOf dX11_needsOf 5 rfl) rfl (by decide) ?_
  refine J_icmp_ge (tgt := 42) (pc' := 12) ok (dOf dX11_needsOf 6 rfl) rfl (by decide) ?_ ?_
  · exact J_fin (kx42 (s.1, s.2.1, s.2.2))
  · refine J_iload_n (pc' := 13) ok (dOf dX11_needsOf 7 rfl) rfl rfl rfl ?_
    refine J_iload_n (pc' := 14) ok (dOf dX11_needsOf 8 rfl) rfl rfl rfl ?_
    refine J_iload (pc' := 16) ok (dOf dX11_needsOf 9 rfl) rfl rfl ?_
    refine J_ishr (pc' := 17) ok (dOf dX11_needsOf 10 rfl) rfl ?_
    refine J_iconst (v := 1) (pc' := 18) ok (dOf dX11_needsOf 11 rfl) rfl (by decide) ?_
    refine J_iand (pc' := 19) ok (dOf dX11_needsOf 12 rfl) rfl ?_
    refine J_iconst (v := 1) (pc' := 20) ok (dOf dX11_needsOf 13 rfl) rfl (by decide) ?_
    refine J_icmp_ne (tgt := 33) (pc' := 23) ok (dOf dX11_needsOf 14 rfl) rfl (by decide) ?_ ?_
    · refine J_iconst (v := 0) (pc' := 34) ok (dOf dX11_needsOf 20 rfl) rfl (by decide) ?_
      exact Mod_needsOf_j34_J ok v0 v1 v2 s.1 s.2.1 s.1 0 s.2.2 k1 kx42
    · refine J_aload_n (pc' := 24) ok (dOf dX11_needsOf 15 rfl) rfl rfl rfl ?_
      refine J_iload_n (pc' := 25) ok (dOf dX11_needsOf 16 rfl) rfl rfl rfl ?_
      refine J_iload (pc' := 27) ok (dOf dX11_needsOf 17 rfl) rfl rfl ?_
      refine J_callVi (k2 := kMod_needOf) (ci := 11) (T := TX11) (N := 29) (as := [.int v1, .int s.2.1]) (pc' := 30) ok (dOf dX11_needsOf 18 rfl) rfl (cw_Mod_needOf (by decide) (by decide)) wml_X11_212 winst_X11_needOf wsel_X11_needOf rfl ⟨Nat.le_refl 0, Nat.le_refl 0⟩ (Nat.le_of_ble_eq_true rfl) rfl (fun _ _ hf => t_Mod_needOf hf) (fun x2 h1 => ?_)
      refine J_goto (tgt := 34) ok (dOf dX11_needsOf 19 rfl) (by decide) ?_
      exact Mod_needsOf_j34_J ok v0 v1 v2 s.1 s.2.1 s.1 x2 h1 k1 kx42
def Mod_needsOf_j42 (v0 : Nat) (v1 : Int32) (v2 : Int32) (v3 : Int32) (v4 : Int32) (h : AHeap) : Option (Int32 × AHeap) :=
  some (v3, h)
theorem Mod_needsOf_j42_J {E : JE} {l : Launch} {G : GX} {v : Int32} {h' : AHeap} (ok : JOK E l G kMod_needsOf 0 0 (some (.int v)) h') (v0 : Nat) (v1 : Int32) (v2 : Int32) (v3 : Int32) (v4 : Int32) (h : AHeap) : J E kMod_needsOf (Mod_needsOf_j42 v0 v1 v2 v3 v4 h) (fun z => z = (v, h')) 42 [some (.ref v0), some (.int v1), some (.int v2), some (.int v3), some (.int v4)] [] h 0 0 := by
  unfold Mod_needsOf_j42
  refine J_iload_n (pc' := 43) ok (dOf dX11_needsOf 25 rfl) rfl rfl rfl ?_
  exact J_ireturn ok (dOf dX11_needsOf 26 rfl) rfl (Eq.refl 0) (Nat.le_refl 0)
def Mod_needsOf (v0 : Nat) (v1 : Int32) (v2 : Int32) (h : AHeap) : Option (Int32 × AHeap) :=
  (iter (Mod_needsOf_b5 v0 v1 v2) Lmax (0, 0, h)).bind (fun (q5 : Int32 × Int32 × AHeap) => Mod_needsOf_j42 v0 v1 v2 q5.1 q5.2.1 q5.2.2)
theorem t_Mod_needsOf {l : Launch} {G : GX} {v0 : Nat} {v1 : Int32} {v2 : Int32} {h : AHeap} {v : Int32} {h1 : AHeap} (hf : Mod_needsOf v0 v1 v2 h = some (v, h1)) : CT l G kMod_needsOf 0 0 [.ref v0, .int v1, .int v2] h (some (.int v)) h1 := by
  refine CT_of (ls := [some (.ref v0), some (.int v1), some (.int v2), none, none]) (Z := fun z => z = (v, h1)) (by decide +kernel) (Nat.le_of_ble_eq_true rfl) hf rfl ⟨rfl, rfl, rfl, trivial⟩ (fun E ok => ?_)
  unfold Mod_needsOf
  refine J_iconst (v := 0) (pc' := 1) ok (dOf dX11_needsOf 0 rfl) rfl (by decide) ?_
  refine J_istore_n (ls' := [some (.ref v0), some (.int v1), some (.int v2), some (.int 0), none]) (pc' := 2) ok (dOf dX11_needsOf 1 rfl) rfl rfl (Nat.le_of_ble_eq_true rfl) rfl rfl ?_
  refine J_iconst (v := 0) (pc' := 3) ok (dOf dX11_needsOf 2 rfl) rfl (by decide) ?_
  refine J_istore (ls' := [some (.ref v0), some (.int v1), some (.int v2), some (.int 0), some (.int 0)]) (pc' := 5) ok (dOf dX11_needsOf 3 rfl) rfl (Nat.le_of_ble_eq_true rfl) rfl rfl ?_
  refine J_iter (lf := fun z5 => [some (.ref v0), some (.int v1), some (.int v2), some (.int z5.1), some (.int z5.2.1)]) (sf := fun _ => []) (hf := fun z5 => z5.2.2) (px := (fun (q5 : Int32 × Int32 × AHeap) => 42)) (lx := (fun (q5 : Int32 × Int32 × AHeap) => [some (.ref v0), some (.int v1), some (.int v2), some (.int q5.1), some (.int q5.2.1)])) (sx := (fun (q5 : Int32 × Int32 × AHeap) => [])) (hx := (fun (q5 : Int32 × Int32 × AHeap) => q5.2.2)) (fun Y2 z5 m1 m2 => Mod_needsOf_b5_J ok v0 v1 v2 m1 m2 z5) (fun q5 => ?_) Lmax _
  exact Mod_needsOf_j42_J ok v0 v1 v2 q5.1 q5.2.1 q5.2.2
-- X11_roadsTo
abbrev kMod_roadsTo : Cd := (yX11_roadsTo, cX11_roadsTo, 4, (some .int), 1, 22)
theorem dX11_roadsTo : dcheck cX11_roadsTo [(0, .iconst 0, 1), (1, .istore_n 2, 1), (2, .iconst 0, 1), (3, .istore_n 3, 1), (4, .iload_n 3, 1), (5, .iconst 4, 1), (6, .if_icmp .ge 29, 3), (9, .iload_n 2, 1), (10, .aload_n 0, 1), (11, .iload_n 3, 1), (12, .iload_n 1, 1), (13, .invokevirtual 148, 3), (16, .iconst (-1), 1), (17, .if_icmp .ne 7, 3), (20, .iconst 0, 1), (21, .goto 6, 3), (24, .iconst 1, 1), (25, .iload_n 3, 1), (26, .ishl, 1), (27, .ior, 1), (28, .istore_n 2, 1), (29, .iinc 3 1, 3), (32, .goto (-28), 3), (35, .iload_n 2, 1), (36, .ireturn, 1)] = true := by decide +kernel
theorem cw_Mod_roadsTo {k : Cd} (h1 : kMod_roadsTo.2.2.2.2.1 + 1 ≤ k.2.2.2.2.1) (h2 : 8 + (kMod_roadsTo.2.2.1 + 11) + kMod_roadsTo.2.2.2.2.2 ≤ k.2.2.2.2.2) : Cw k kMod_roadsTo 1 := ⟨wcode_X11_roadsTo, wini_SplitProgramModel, ⟨by decide, by decide, by decide +kernel⟩, h1, h2⟩
def Mod_roadsTo_j27 (v0 : Nat) (v1 : Int32) (v2 : Int32) (v3 : Int32) (t0 : Int32) (t1 : Int32) (h : AHeap) : Option ((Int32 × Int32 × AHeap) ⊕ ((Int32 × Int32 × AHeap))) :=
  some (Sum.inl (t0 ||| t1, v3 + 1, h))
theorem Mod_roadsTo_j27_J {E : JE} {l : Launch} {G : GX} {r : Option Value} {h' : AHeap} (ok : JOK E l G kMod_roadsTo 0 0 r h') (v0 : Nat) (v1 : Int32) (v2 : Int32) (v3 : Int32) (t0 : Int32) (t1 : Int32) (h : AHeap) {Y : (Int32 × Int32 × AHeap) ⊕ ((Int32 × Int32 × AHeap)) → Prop} (k1 : ∀ s' : Int32 × Int32 × AHeap, Y (.inl s') → JW E kMod_roadsTo 4 [some (.ref v0), some (.int v1), some (.int s'.1), some (.int s'.2.1)] [] s'.2.2 0 0) (kx35 : ∀ q : Int32 × Int32 × AHeap, Y (.inr q) → JW E kMod_roadsTo 35 [some (.ref v0), some (.int v1), some (.int q.1), some (.int q.2.1)] [] q.2.2 0 0) : J E kMod_roadsTo (Mod_roadsTo_j27 v0 v1 v2 v3 t0 t1 h) Y 27 [some (.ref v0), some (.int v1), some (.int v2), some (.int v3)] [.int t1, .int t0] h 0 0 := by
  unfold Mod_roadsTo_j27
  refine J_ior (pc' := 28) ok (dOf dX11_roadsTo 19 rfl) rfl ?_
  refine J_istore_n (ls' := [some (.ref v0), some (.int v1), some (.int (t0 ||| t1)), some (.int v3)]) (pc' := 29) ok (dOf dX11_roadsTo 20 rfl) rfl rfl (Nat.le_of_ble_eq_true rfl) rfl rfl ?_
  refine J_iinc (v := v3 + 1) (ls' := [some (.ref v0), some (.int v1), some (.int (t0 ||| t1)), some (.int (v3 + 1))]) (pc' := 32) ok (dOf dX11_roadsTo 21 rfl) rfl rfl (by rfl) (Nat.le_of_ble_eq_true rfl) rfl rfl ?_
  refine J_goto (tgt := 4) ok (dOf dX11_roadsTo 22 rfl) (by decide) ?_
  exact J_fin (k1 (t0 ||| t1, v3 + 1, h))
def Mod_roadsTo_b4 (v0 : Nat) (v1 : Int32) (s : Int32 × Int32 × AHeap) : Option ((Int32 × Int32 × AHeap) ⊕ ((Int32 × Int32 × AHeap))) :=
  (if 4 ≤ s.2.1 then some (Sum.inr (s.1, s.2.1, s.2.2)) else (chk s.2.2 v0 11).bind fun _ => bnd2 (Mod_toll v0 s.2.1 v1 s.2.2) fun x2 h1 => (if ¬ x2 = (-1) then Mod_roadsTo_j27 v0 v1 s.1 s.2.1 s.1 ((1 : Int32) <<< (s.2.1 &&& 31)) h1 else Mod_roadsTo_j27 v0 v1 s.1 s.2.1 s.1 0 h1))
theorem Mod_roadsTo_b4_J {E : JE} {l : Launch} {G : GX} {r : Option Value} {h' : AHeap} (ok : JOK E l G kMod_roadsTo 0 0 r h') (v0 : Nat) (v1 : Int32) {Y : (Int32 × Int32 × AHeap) ⊕ ((Int32 × Int32 × AHeap)) → Prop} (k1 : ∀ s' : Int32 × Int32 × AHeap, Y (.inl s') → JW E kMod_roadsTo 4 [some (.ref v0), some (.int v1), some (.int s'.1), some (.int s'.2.1)] [] s'.2.2 0 0) (kx35 : ∀ q : Int32 × Int32 × AHeap, Y (.inr q) → JW E kMod_roadsTo 35 [some (.ref v0), some (.int v1), some (.int q.1), some (.int q.2.1)] [] q.2.2 0 0) (s : Int32 × Int32 × AHeap) : J E kMod_roadsTo (Mod_roadsTo_b4 v0 v1 s) Y 4 [some (.ref v0), some (.int v1), some (.int s.1), some (.int s.2.1)] [] s.2.2 0 0 := by
  unfold Mod_roadsTo_b4
  refine J_iload_n (pc' := 5) ok (dOf dX11_roadsTo 4 rfl) rfl rfl rfl ?_
  refine J_iconst (v := 4) (pc' := 6) ok (dOf dX11_roadsTo 5 rfl) rfl (by decide) ?_
  refine J_icmp_ge (tgt := 35) (pc' := 9) ok (dOf dX11_roadsTo 6 rfl) rfl (by decide) ?_ ?_
  · exact J_fin (kx35 (s.1, s.2.1, s.2.2))
  · refine J_iload_n (pc' := 10) ok (dOf dX11_roadsTo 7 rfl) rfl rfl rfl ?_
    refine J_aload_n (pc' := 11) ok (dOf dX11_roadsTo 8 rfl) rfl rfl rfl ?_
    refine J_iload_n (pc' := 12) ok (dOf dX11_roadsTo 9 rfl) rfl rfl rfl ?_
    refine J_iload_n (pc' := 13) ok (dOf dX11_roadsTo 10 rfl) rfl rfl rfl ?_
    refine J_callVi (k2 := kMod_toll) (ci := 11) (T := TX11) (N := 29) (as := [.int s.2.1, .int v1]) (pc' := 16) ok (dOf dX11_roadsTo 11 rfl) rfl (cw_Mod_toll (by decide) (by decide)) wml_X11_148 winst_X11_toll wsel_X11_toll rfl ⟨Nat.le_refl 0, Nat.le_refl 0⟩ (Nat.le_of_ble_eq_true rfl) rfl (fun _ _ hf => t_Mod_toll hf) (fun x2 h1 => ?_)
    refine J_iconst (v := (-1)) (pc' := 17) ok (dOf dX11_roadsTo 12 rfl) rfl (by decide) ?_
    refine J_icmp_ne (tgt := 24) (pc' := 20) ok (dOf dX11_roadsTo 13 rfl) rfl (by decide) ?_ ?_
    · refine J_iconst (v := 1) (pc' := 25) ok (dOf dX11_roadsTo 16 rfl) rfl (by decide) ?_
      refine J_iload_n (pc' := 26) ok (dOf dX11_roadsTo 17 rfl) rfl rfl rfl ?_
      refine J_ishl (pc' := 27) ok (dOf dX11_roadsTo 18 rfl) rfl ?_
      exact Mod_roadsTo_j27_J ok v0 v1 s.1 s.2.1 s.1 ((1 : Int32) <<< (s.2.1 &&& 31)) h1 k1 kx35
    · refine J_iconst (v := 0) (pc' := 21) ok (dOf dX11_roadsTo 14 rfl) rfl (by decide) ?_
      refine J_goto (tgt := 27) ok (dOf dX11_roadsTo 15 rfl) (by decide) ?_
      exact Mod_roadsTo_j27_J ok v0 v1 s.1 s.2.1 s.1 0 h1 k1 kx35
def Mod_roadsTo_j35 (v0 : Nat) (v1 : Int32) (v2 : Int32) (v3 : Int32) (h : AHeap) : Option (Int32 × AHeap) :=
  some (v2, h)
theorem Mod_roadsTo_j35_J {E : JE} {l : Launch} {G : GX} {v : Int32} {h' : AHeap} (ok : JOK E l G kMod_roadsTo 0 0 (some (.int v)) h') (v0 : Nat) (v1 : Int32) (v2 : Int32) (v3 : Int32) (h : AHeap) : J E kMod_roadsTo (Mod_roadsTo_j35 v0 v1 v2 v3 h) (fun z => z = (v, h')) 35 [some (.ref v0), some (.int v1), some (.int v2), some (.int v3)] [] h 0 0 := by
  unfold Mod_roadsTo_j35
  refine J_iload_n (pc' := 36) ok (dOf dX11_roadsTo 23 rfl) rfl rfl rfl ?_
  exact J_ireturn ok (dOf dX11_roadsTo 24 rfl) rfl (Eq.refl 0) (Nat.le_refl 0)
def Mod_roadsTo (v0 : Nat) (v1 : Int32) (h : AHeap) : Option (Int32 × AHeap) :=
  (iter (Mod_roadsTo_b4 v0 v1) Lmax (0, 0, h)).bind (fun (q4 : Int32 × Int32 × AHeap) => Mod_roadsTo_j35 v0 v1 q4.1 q4.2.1 q4.2.2)
theorem t_Mod_roadsTo {l : Launch} {G : GX} {v0 : Nat} {v1 : Int32} {h : AHeap} {v : Int32} {h1 : AHeap} (hf : Mod_roadsTo v0 v1 h = some (v, h1)) : CT l G kMod_roadsTo 0 0 [.ref v0, .int v1] h (some (.int v)) h1 := by
  refine CT_of (ls := [some (.ref v0), some (.int v1), none, none]) (Z := fun z => z = (v, h1)) (by decide +kernel) (Nat.le_of_ble_eq_true rfl) hf rfl ⟨rfl, rfl, trivial⟩ (fun E ok => ?_)
  unfold Mod_roadsTo
  refine J_iconst (v := 0) (pc' := 1) ok (dOf dX11_roadsTo 0 rfl) rfl (by decide) ?_
  refine J_istore_n (ls' := [some (.ref v0), some (.int v1), some (.int 0), none]) (pc' := 2) ok (dOf dX11_roadsTo 1 rfl) rfl rfl (Nat.le_of_ble_eq_true rfl) rfl rfl ?_
  refine J_iconst (v := 0) (pc' := 3) ok (dOf dX11_roadsTo 2 rfl) rfl (by decide) ?_
  refine J_istore_n (ls' := [some (.ref v0), some (.int v1), some (.int 0), some (.int 0)]) (pc' := 4) ok (dOf dX11_roadsTo 3 rfl) rfl rfl (Nat.le_of_ble_eq_true rfl) rfl rfl ?_
  refine J_iter (lf := fun z4 => [some (.ref v0), some (.int v1), some (.int z4.1), some (.int z4.2.1)]) (sf := fun _ => []) (hf := fun z4 => z4.2.2) (px := (fun (q4 : Int32 × Int32 × AHeap) => 35)) (lx := (fun (q4 : Int32 × Int32 × AHeap) => [some (.ref v0), some (.int v1), some (.int q4.1), some (.int q4.2.1)])) (sx := (fun (q4 : Int32 × Int32 × AHeap) => [])) (hx := (fun (q4 : Int32 × Int32 × AHeap) => q4.2.2)) (fun Y2 z4 m1 m2 => Mod_roadsTo_b4_J ok v0 v1 m1 m2 z4) (fun q4 => ?_) Lmax _
  exact Mod_roadsTo_j35_J ok v0 v1 q4.1 q4.2.1 q4.2.2
-- X11_roadsToSet
abbrev kMod_roadsToSet : Cd := (yX11_roadsToSet, cX11_roadsToSet, 4, (some .int), 2, 45)
theorem dX11_roadsToSet : dcheck cX11_roadsToSet [(0, .iconst 0, 1), (1, .istore_n 2, 1), (2, .iconst 0, 1), (3, .istore_n 3, 1), (4, .iload_n 3, 1), (5, .bipush 6, 2), (7, .if_icmp .ge 30, 3), (10, .iload_n 2, 1), (11, .iload_n 1, 1), (12, .iload_n 3, 1), (13, .ishr, 1), (14, .iconst 1, 1), (15, .iand, 1), (16, .iconst 1, 1), (17, .if_icmp .ne 11, 3), (20, .aload_n 0, 1), (21, .iload_n 3, 1), (22, .invokevirtual 206, 3), (25, .goto 4, 3), (28, .iconst 0, 1), (29, .ior, 1), (30, .istore_n 2, 1), (31, .iinc 3 1, 3), (34, .goto (-30), 3), (37, .iload_n 2, 1), (38, .ireturn, 1)] = true := by decide +kernel
theorem cw_Mod_roadsToSet {k : Cd} (h1 : kMod_roadsToSet.2.2.2.2.1 + 1 ≤ k.2.2.2.2.1) (h2 : 8 + (kMod_roadsToSet.2.2.1 + 11) + kMod_roadsToSet.2.2.2.2.2 ≤ k.2.2.2.2.2) : Cw k kMod_roadsToSet 1 := ⟨wcode_X11_roadsToSet, wini_SplitProgramModel, ⟨by decide, by decide, by decide +kernel⟩, h1, h2⟩
def Mod_roadsToSet_j29 (v0 : Nat) (v1 : Int32) (v2 : Int32) (v3 : Int32) (t0 : Int32) (t1 : Int32) (h : AHeap) : Option ((Int32 × Int32 × AHeap) ⊕ ((Int32 × Int32 × AHeap))) :=
  some (Sum.inl (t0 ||| t1, v3 + 1, h))
theorem Mod_roadsToSet_j29_J {E : JE} {l : Launch} {G : GX} {r : Option Value} {h' : AHeap} (ok : JOK E l G kMod_roadsToSet 0 0 r h') (v0 : Nat) (v1 : Int32) (v2 : Int32) (v3 : Int32) (t0 : Int32) (t1 : Int32) (h : AHeap) {Y : (Int32 × Int32 × AHeap) ⊕ ((Int32 × Int32 × AHeap)) → Prop} (k1 : ∀ s' : Int32 × Int32 × AHeap, Y (.inl s') → JW E kMod_roadsToSet 4 [some (.ref v0), some (.int v1), some (.int s'.1), some (.int s'.2.1)] [] s'.2.2 0 0) (kx37 : ∀ q : Int32 × Int32 × AHeap, Y (.inr q) → JW E kMod_roadsToSet 37 [some (.ref v0), some (.int v1), some (.int q.1), some (.int q.2.1)] [] q.2.2 0 0) : J E kMod_roadsToSet (Mod_roadsToSet_j29 v0 v1 v2 v3 t0 t1 h) Y 29 [some (.ref v0), some (.int v1), some (.int v2), some (.int v3)] [.int t1, .int t0] h 0 0 := by
  unfold Mod_roadsToSet_j29
  refine J_ior (pc' := 30) ok (dOf dX11_roadsToSet 20 rfl) rfl ?_
  refine J_istore_n (ls' := [some (.ref v0), some (.int v1), some (.int (t0 ||| t1)), some (.int v3)]) (pc' := 31) ok (dOf dX11_roadsToSet 21 rfl) rfl rfl (Nat.le_of_ble_eq_true rfl) rfl rfl ?_
  refine J_iinc (v := v3 + 1) (ls' := [some (.ref v0), some (.int v1), some (.int (t0 ||| t1)), some (.int (v3 + 1))]) (pc' := 34) ok (dOf dX11_roadsToSet 22 rfl) rfl rfl (by rfl) (Nat.le_of_ble_eq_true rfl) rfl rfl ?_
  refine J_goto (tgt := 4) ok (dOf dX11_roadsToSet 23 rfl) (by decide) ?_
  exact J_fin (k1 (t0 ||| t1, v3 + 1, h))
def Mod_roadsToSet_b4 (v0 : Nat) (v1 : Int32) (s : Int32 × Int32 × AHeap) : Option ((Int32 × Int32 × AHeap) ⊕ ((Int32 × Int32 × AHeap))) :=
  (if 6 ≤ s.2.1 then some (Sum.inr (s.1, s.2.1, s.2.2)) else (if ¬ ((v1 >>> (s.2.1 &&& 31)) &&& 1) = 1 then Mod_roadsToSet_j29 v0 v1 s.1 s.2.1 s.1 0 s.2.2 else (chk s.2.2 v0 11).bind fun _ => bnd2 (Mod_roadsTo v0 s.2.1 s.2.2) fun x2 h1 => Mod_roadsToSet_j29 v0 v1 s.1 s.2.1 s.1 x2 h1))
theorem Mod_roadsToSet_b4_J {E : JE} {l : Launch} {G : GX} {r : Option Value} {h' : AHeap} (ok : JOK E l G kMod_roadsToSet 0 0 r h') (v0 : Nat) (v1 : Int32) {Y : (Int32 × Int32 × AHeap) ⊕ ((Int32 × Int32 × AHeap)) → Prop} (k1 : ∀ s' : Int32 × Int32 × AHeap, Y (.inl s') → JW E kMod_roadsToSet 4 [some (.ref v0), some (.int v1), some (.int s'.1), some (.int s'.2.1)] [] s'.2.2 0 0) (kx37 : ∀ q : Int32 × Int32 × AHeap, Y (.inr q) → JW E kMod_roadsToSet 37 [some (.ref v0), some (.int v1), some (.int q.1), some (.int q.2.1)] [] q.2.2 0 0) (s : Int32 × Int32 × AHeap) : J E kMod_roadsToSet (Mod_roadsToSet_b4 v0 v1 s) Y 4 [some (.ref v0), some (.int v1), some (.int s.1), some (.int s.2.1)] [] s.2.2 0 0 := by
  unfold Mod_roadsToSet_b4
  refine J_iload_n (pc' := 5) ok (dOf dX11_roadsToSet 4 rfl) rfl rfl rfl ?_
  refine J_bipush (v := 6) (pc' := 7) ok (dOf dX11_roadsToSet 5 rfl) rfl (by decide) ?_
  refine J_icmp_ge (tgt := 37) (pc' := 10) ok (dOf dX11_roadsToSet 6 rfl) rfl (by decide) ?_ ?_
  · exact J_fin (kx37 (s.1, s.2.1, s.2.2))
  · refine J_iload_n (pc' := 11) ok (dOf dX11_roadsToSet 7 rfl) rfl rfl rfl ?_
    refine J_iload_n (pc' := 12) ok (dOf dX11_roadsToSet 8 rfl) rfl rfl rfl ?_
    refine J_iload_n (pc' := 13) ok (dOf dX11_roadsToSet 9 rfl) rfl rfl rfl ?_
    refine J_ishr (pc' := 14) ok (dOf dX11_roadsToSet 10 rfl) rfl ?_
    refine J_iconst (v := 1) (pc' := 15) ok (dOf dX11_roadsToSet 11 rfl) rfl (by decide) ?_
    refine J_iand (pc' := 16) ok (dOf dX11_roadsToSet 12 rfl) rfl ?_
    refine J_iconst (v := 1) (pc' := 17) ok (dOf dX11_roadsToSet 13 rfl) rfl (by decide) ?_
    refine J_icmp_ne (tgt := 28) (pc' := 20) ok (dOf dX11_roadsToSet 14 rfl) rfl (by decide) ?_ ?_
    · refine J_iconst (v := 0) (pc' := 29) ok (dOf dX11_roadsToSet 19 rfl) rfl (by decide) ?_
      exact Mod_roadsToSet_j29_J ok v0 v1 s.1 s.2.1 s.1 0 s.2.2 k1 kx37
    · refine J_aload_n (pc' := 21) ok (dOf dX11_roadsToSet 15 rfl) rfl rfl rfl ?_
      refine J_iload_n (pc' := 22) ok (dOf dX11_roadsToSet 16 rfl) rfl rfl rfl ?_
      refine J_callVi (k2 := kMod_roadsTo) (ci := 11) (T := TX11) (N := 29) (as := [.int s.2.1]) (pc' := 25) ok (dOf dX11_roadsToSet 17 rfl) rfl (cw_Mod_roadsTo (by decide) (by decide)) wml_X11_206 winst_X11_roadsTo wsel_X11_roadsTo rfl ⟨Nat.le_refl 0, Nat.le_refl 0⟩ (Nat.le_of_ble_eq_true rfl) rfl (fun _ _ hf => t_Mod_roadsTo hf) (fun x2 h1 => ?_)
      refine J_goto (tgt := 29) ok (dOf dX11_roadsToSet 18 rfl) (by decide) ?_
      exact Mod_roadsToSet_j29_J ok v0 v1 s.1 s.2.1 s.1 x2 h1 k1 kx37
def Mod_roadsToSet_j37 (v0 : Nat) (v1 : Int32) (v2 : Int32) (v3 : Int32) (h : AHeap) : Option (Int32 × AHeap) :=
  some (v2, h)
theorem Mod_roadsToSet_j37_J {E : JE} {l : Launch} {G : GX} {v : Int32} {h' : AHeap} (ok : JOK E l G kMod_roadsToSet 0 0 (some (.int v)) h') (v0 : Nat) (v1 : Int32) (v2 : Int32) (v3 : Int32) (h : AHeap) : J E kMod_roadsToSet (Mod_roadsToSet_j37 v0 v1 v2 v3 h) (fun z => z = (v, h')) 37 [some (.ref v0), some (.int v1), some (.int v2), some (.int v3)] [] h 0 0 := by
  unfold Mod_roadsToSet_j37
  refine J_iload_n (pc' := 38) ok (dOf dX11_roadsToSet 24 rfl) rfl rfl rfl ?_
  exact J_ireturn ok (dOf dX11_roadsToSet 25 rfl) rfl (Eq.refl 0) (Nat.le_refl 0)
def Mod_roadsToSet (v0 : Nat) (v1 : Int32) (h : AHeap) : Option (Int32 × AHeap) :=
  (iter (Mod_roadsToSet_b4 v0 v1) Lmax (0, 0, h)).bind (fun (q4 : Int32 × Int32 × AHeap) => Mod_roadsToSet_j37 v0 v1 q4.1 q4.2.1 q4.2.2)
theorem t_Mod_roadsToSet {l : Launch} {G : GX} {v0 : Nat} {v1 : Int32} {h : AHeap} {v : Int32} {h1 : AHeap} (hf : Mod_roadsToSet v0 v1 h = some (v, h1)) : CT l G kMod_roadsToSet 0 0 [.ref v0, .int v1] h (some (.int v)) h1 := by
  refine CT_of (ls := [some (.ref v0), some (.int v1), none, none]) (Z := fun z => z = (v, h1)) (by decide +kernel) (Nat.le_of_ble_eq_true rfl) hf rfl ⟨rfl, rfl, trivial⟩ (fun E ok => ?_)
  unfold Mod_roadsToSet
  refine J_iconst (v := 0) (pc' := 1) ok (dOf dX11_roadsToSet 0 rfl) rfl (by decide) ?_
  refine J_istore_n (ls' := [some (.ref v0), some (.int v1), some (.int 0), none]) (pc' := 2) ok (dOf dX11_roadsToSet 1 rfl) rfl rfl (Nat.le_of_ble_eq_true rfl) rfl rfl ?_
  refine J_iconst (v := 0) (pc' := 3) ok (dOf dX11_roadsToSet 2 rfl) rfl (by decide) ?_
  refine J_istore_n (ls' := [some (.ref v0), some (.int v1), some (.int 0), some (.int 0)]) (pc' := 4) ok (dOf dX11_roadsToSet 3 rfl) rfl rfl (Nat.le_of_ble_eq_true rfl) rfl rfl ?_
  refine J_iter (lf := fun z4 => [some (.ref v0), some (.int v1), some (.int z4.1), some (.int z4.2.1)]) (sf := fun _ => []) (hf := fun z4 => z4.2.2) (px := (fun (q4 : Int32 × Int32 × AHeap) => 37)) (lx := (fun (q4 : Int32 × Int32 × AHeap) => [some (.ref v0), some (.int v1), some (.int q4.1), some (.int q4.2.1)])) (sx := (fun (q4 : Int32 × Int32 × AHeap) => [])) (hx := (fun (q4 : Int32 × Int32 × AHeap) => q4.2.2)) (fun Y2 z4 m1 m2 => Mod_roadsToSet_b4_J ok v0 v1 m1 m2 z4) (fun q4 => ?_) Lmax _
  exact Mod_roadsToSet_j37_J ok v0 v1 q4.1 q4.2.1 q4.2.2
-- X11_stocksOf
abbrev kMod_stocksOf : Cd := (yX11_stocksOf, cX11_stocksOf, 5, (some .int), 2, 43)
theorem dX11_stocksOf : dcheck cX11_stocksOf [(0, .iconst 0, 1), (1, .istore_n 3, 1), (2, .iconst 0, 1), (3, .istore 4, 2), (5, .iload 4, 2), (7, .iconst 4, 1), (8, .if_icmp .ge 33, 3), (11, .iload_n 3, 1), (12, .iload_n 2, 1), (13, .iload 4, 2), (15, .ishr, 1), (16, .iconst 1, 1), (17, .iand, 1), (18, .iconst 1, 1), (19, .if_icmp .ne 13, 3), (22, .aload_n 0, 1), (23, .iload_n 1, 1), (24, .iload 4, 2), (26, .invokevirtual 209, 3), (29, .goto 4, 3), (32, .iconst 0, 1), (33, .iadd, 1), (34, .istore_n 3, 1), (35, .iinc 4 1, 3), (38, .goto (-33), 3), (41, .iload_n 3, 1), (42, .ireturn, 1)] = true := by decide +kernel
theorem cw_Mod_stocksOf {k : Cd} (h1 : kMod_stocksOf.2.2.2.2.1 + 1 ≤ k.2.2.2.2.1) (h2 : 8 + (kMod_stocksOf.2.2.1 + 11) + kMod_stocksOf.2.2.2.2.2 ≤ k.2.2.2.2.2) : Cw k kMod_stocksOf 2 := ⟨wcode_X11_stocksOf, wini_SplitProgramModel, ⟨by decide, by decide, by decide +kernel⟩, h1, h2⟩
def Mod_stocksOf_j33 (v0 : Nat) (v1 : Int32) (v2 : Int32) (v3 : Int32) (v4 : Int32) (t0 : Int32) (t1 : Int32) (h : AHeap) : Option ((Int32 × Int32 × AHeap) ⊕ ((Int32 × Int32 × AHeap))) :=
  some (Sum.inl (t0 + t1, v4 + 1, h))
theorem Mod_stocksOf_j33_J {E : JE} {l : Launch} {G : GX} {r : Option Value} {h' : AHeap} (ok : JOK E l G kMod_stocksOf 0 0 r h') (v0 : Nat) (v1 : Int32) (v2 : Int32) (v3 : Int32) (v4 : Int32) (t0 : Int32) (t1 : Int32) (h : AHeap) {Y : (Int32 × Int32 × AHeap) ⊕ ((Int32 × Int32 × AHeap)) → Prop} (k1 : ∀ s' : Int32 × Int32 × AHeap, Y (.inl s') → JW E kMod_stocksOf 5 [some (.ref v0), some (.int v1), some (.int v2), some (.int s'.1), some (.int s'.2.1)] [] s'.2.2 0 0) (kx41 : ∀ q : Int32 × Int32 × AHeap, Y (.inr q) → JW E kMod_stocksOf 41 [some (.ref v0), some (.int v1), some (.int v2), some (.int q.1), some (.int q.2.1)] [] q.2.2 0 0) : J E kMod_stocksOf (Mod_stocksOf_j33 v0 v1 v2 v3 v4 t0 t1 h) Y 33 [some (.ref v0), some (.int v1), some (.int v2), some (.int v3), some (.int v4)] [.int t1, .int t0] h 0 0 := by
  unfold Mod_stocksOf_j33
  refine J_iadd (pc' := 34) ok (dOf dX11_stocksOf 21 rfl) rfl ?_
  refine J_istore_n (ls' := [some (.ref v0), some (.int v1), some (.int v2), some (.int (t0 + t1)), some (.int v4)]) (pc' := 35) ok (dOf dX11_stocksOf 22 rfl) rfl rfl (Nat.le_of_ble_eq_true rfl) rfl rfl ?_
  refine J_iinc (v := v4 + 1) (ls' := [some (.ref v0), some (.int v1), some (.int v2), some (.int (t0 + t1)), some (.int (v4 + 1))]) (pc' := 38) ok (dOf dX11_stocksOf 23 rfl) rfl rfl (by rfl) (Nat.le_of_ble_eq_true rfl) rfl rfl ?_
  refine J_goto (tgt := 5) ok (dOf dX11_stocksOf 24 rfl) (by decide) ?_
  exact J_fin (k1 (t0 + t1, v4 + 1, h))
def Mod_stocksOf_b5 (v0 : Nat) (v1 : Int32) (v2 : Int32) (s : Int32 × Int32 × AHeap) : Option ((Int32 × Int32 × AHeap) ⊕ ((Int32 × Int32 × AHeap))) :=
  (if 4 ≤ s.2.1 then some (Sum.inr (s.1, s.2.1, s.2.2)) else (if ¬ ((v2 >>> (s.2.1 &&& 31)) &&& 1) = 1 then Mod_stocksOf_j33 v0 v1 v2 s.1 s.2.1 s.1 0 s.2.2 else (chk s.2.2 v0 11).bind fun _ => bnd2 (Mod_stockOf v0 v1 s.2.1 s.2.2) fun x2 h1 => Mod_stocksOf_j33 v0 v1 v2 s.1 s.2.1 s.1 x2 h1))
theorem Mod_stocksOf_b5_J {E : JE} {l : Launch} {G : GX} {r : Option Value} {h' : AHeap} (ok : JOK E l G kMod_stocksOf 0 0 r h') (v0 : Nat) (v1 : Int32) (v2 : Int32) {Y : (Int32 × Int32 × AHeap) ⊕ ((Int32 × Int32 × AHeap)) → Prop} (k1 : ∀ s' : Int32 × Int32 × AHeap, Y (.inl s') → JW E kMod_stocksOf 5 [some (.ref v0), some (.int v1), some (.int v2), some (.int s'.1), some (.int s'.2.1)] [] s'.2.2 0 0) (kx41 : ∀ q : Int32 × Int32 × AHeap, Y (.inr q) → JW E kMod_stocksOf 41 [some (.ref v0), some (.int v1), some (.int v2), some (.int q.1), some (.int q.2.1)] [] q.2.2 0 0) (s : Int32 × Int32 × AHeap) : J E kMod_stocksOf (Mod_stocksOf_b5 v0 v1 v2 s) Y 5 [some (.ref v0), some (.int v1), some (.int v2), some (.int s.1), some (.int s.2.1)] [] s.2.2 0 0 := by
  unfold Mod_stocksOf_b5
  refine J_iload (pc' := 7) ok (dOf dX11_stocksOf 4 rfl) rfl rfl ?_
  refine J_iconst (v := 4) (pc' := 8) ok (dOf dX11_stocksOf 5 rfl) rfl (by decide) ?_
  refine J_icmp_ge (tgt := 41) (pc' := 11) ok (dOf dX11_stocksOf 6 rfl) rfl (by decide) ?_ ?_
  · exact J_fin (kx41 (s.1, s.2.1, s.2.2))
  · refine J_iload_n (pc' := 12) ok (dOf dX11_stocksOf 7 rfl) rfl rfl rfl ?_
    refine J_iload_n (pc' := 13) ok (dOf dX11_stocksOf 8 rfl) rfl rfl rfl ?_
    refine J_iload (pc' := 15) ok (dOf dX11_stocksOf 9 rfl) rfl rfl ?_
    refine J_ishr (pc' := 16) ok (dOf dX11_stocksOf 10 rfl) rfl ?_
    refine J_iconst (v := 1) (pc' := 17) ok (dOf dX11_stocksOf 11 rfl) rfl (by decide) ?_
    refine J_iand (pc' := 18) ok (dOf dX11_stocksOf 12 rfl) rfl ?_
    refine J_iconst (v := 1) (pc' := 19) ok (dOf dX11_stocksOf 13 rfl) rfl (by decide) ?_
    refine J_icmp_ne (tgt := 32) (pc' := 22) ok (dOf dX11_stocksOf 14 rfl) rfl (by decide) ?_ ?_
    · refine J_iconst (v := 0) (pc' := 33) ok (dOf dX11_stocksOf 20 rfl) rfl (by decide) ?_
      exact Mod_stocksOf_j33_J ok v0 v1 v2 s.1 s.2.1 s.1 0 s.2.2 k1 kx41
    · refine J_aload_n (pc' := 23) ok (dOf dX11_stocksOf 15 rfl) rfl rfl rfl ?_
      refine J_iload_n (pc' := 24) ok (dOf dX11_stocksOf 16 rfl) rfl rfl rfl ?_
      refine J_iload (pc' := 26) ok (dOf dX11_stocksOf 17 rfl) rfl rfl ?_
      refine J_callVi (k2 := kMod_stockOf) (ci := 11) (T := TX11) (N := 29) (as := [.int v1, .int s.2.1]) (pc' := 29) ok (dOf dX11_stocksOf 18 rfl) rfl (cw_Mod_stockOf (by decide) (by decide)) wml_X11_209 winst_X11_stockOf wsel_X11_stockOf rfl ⟨Nat.le_refl 0, Nat.le_refl 0⟩ (Nat.le_of_ble_eq_true rfl) rfl (fun _ _ hf => t_Mod_stockOf hf) (fun x2 h1 => ?_)
      refine J_goto (tgt := 33) ok (dOf dX11_stocksOf 19 rfl) (by decide) ?_
      exact Mod_stocksOf_j33_J ok v0 v1 v2 s.1 s.2.1 s.1 x2 h1 k1 kx41
def Mod_stocksOf_j41 (v0 : Nat) (v1 : Int32) (v2 : Int32) (v3 : Int32) (v4 : Int32) (h : AHeap) : Option (Int32 × AHeap) :=
  some (v3, h)
theorem Mod_stocksOf_j41_J {E : JE} {l : Launch} {G : GX} {v : Int32} {h' : AHeap} (ok : JOK E l G kMod_stocksOf 0 0 (some (.int v)) h') (v0 : Nat) (v1 : Int32) (v2 : Int32) (v3 : Int32) (v4 : Int32) (h : AHeap) : J E kMod_stocksOf (Mod_stocksOf_j41 v0 v1 v2 v3 v4 h) (fun z => z = (v, h')) 41 [some (.ref v0), some (.int v1), some (.int v2), some (.int v3), some (.int v4)] [] h 0 0 := by
  unfold Mod_stocksOf_j41
  refine J_iload_n (pc' := 42) ok (dOf dX11_stocksOf 25 rfl) rfl rfl rfl ?_
  exact J_ireturn ok (dOf dX11_stocksOf 26 rfl) rfl (Eq.refl 0) (Nat.le_refl 0)
def Mod_stocksOf (v0 : Nat) (v1 : Int32) (v2 : Int32) (h : AHeap) : Option (Int32 × AHeap) :=
  (iter (Mod_stocksOf_b5 v0 v1 v2) Lmax (0, 0, h)).bind (fun (q5 : Int32 × Int32 × AHeap) => Mod_stocksOf_j41 v0 v1 v2 q5.1 q5.2.1 q5.2.2)
theorem t_Mod_stocksOf {l : Launch} {G : GX} {v0 : Nat} {v1 : Int32} {v2 : Int32} {h : AHeap} {v : Int32} {h1 : AHeap} (hf : Mod_stocksOf v0 v1 v2 h = some (v, h1)) : CT l G kMod_stocksOf 0 0 [.ref v0, .int v1, .int v2] h (some (.int v)) h1 := by
  refine CT_of (ls := [some (.ref v0), some (.int v1), some (.int v2), none, none]) (Z := fun z => z = (v, h1)) (by decide +kernel) (Nat.le_of_ble_eq_true rfl) hf rfl ⟨rfl, rfl, rfl, trivial⟩ (fun E ok => ?_)
  unfold Mod_stocksOf
  refine J_iconst (v := 0) (pc' := 1) ok (dOf dX11_stocksOf 0 rfl) rfl (by decide) ?_
  refine J_istore_n (ls' := [some (.ref v0), some (.int v1), some (.int v2), some (.int 0), none]) (pc' := 2) ok (dOf dX11_stocksOf 1 rfl) rfl rfl (Nat.le_of_ble_eq_true rfl) rfl rfl ?_
  refine J_iconst (v := 0) (pc' := 3) ok (dOf dX11_stocksOf 2 rfl) rfl (by decide) ?_
  refine J_istore (ls' := [some (.ref v0), some (.int v1), some (.int v2), some (.int 0), some (.int 0)]) (pc' := 5) ok (dOf dX11_stocksOf 3 rfl) rfl (Nat.le_of_ble_eq_true rfl) rfl rfl ?_
  refine J_iter (lf := fun z5 => [some (.ref v0), some (.int v1), some (.int v2), some (.int z5.1), some (.int z5.2.1)]) (sf := fun _ => []) (hf := fun z5 => z5.2.2) (px := (fun (q5 : Int32 × Int32 × AHeap) => 41)) (lx := (fun (q5 : Int32 × Int32 × AHeap) => [some (.ref v0), some (.int v1), some (.int v2), some (.int q5.1), some (.int q5.2.1)])) (sx := (fun (q5 : Int32 × Int32 × AHeap) => [])) (hx := (fun (q5 : Int32 × Int32 × AHeap) => q5.2.2)) (fun Y2 z5 m1 m2 => Mod_stocksOf_b5_J ok v0 v1 v2 m1 m2 z5) (fun q5 => ?_) Lmax _
  exact Mod_stocksOf_j41_J ok v0 v1 v2 q5.1 q5.2.1 q5.2.2
-- X11_lackOf
abbrev kMod_lackOf : Cd := (yX11_lackOf, cX11_lackOf, 5, (some .int), 3, 68)
theorem dX11_lackOf : dcheck cX11_lackOf [(0, .aload_n 0, 1), (1, .iconst 0, 1), (2, .putfield 215, 3), (5, .aload_n 0, 1), (6, .iconst 0, 1), (7, .putfield 218, 3), (10, .iconst 1, 1), (11, .istore_n 3, 1), (12, .iload_n 3, 1), (13, .iconst 1, 1), (14, .aload_n 0, 1), (15, .getfield 22, 3), (18, .iconst 1, 1), (19, .iaload, 1), (20, .ishl, 1), (21, .if_icmp .ge 70, 3), (24, .aload_n 0, 1), (25, .iload_n 1, 1), (26, .iload_n 3, 1), (27, .invokevirtual 221, 3), (30, .aload_n 0, 1), (31, .iload_n 2, 1), (32, .aload_n 0, 1), (33, .iload_n 3, 1), (34, .invokevirtual 224, 3), (37, .invokevirtual 227, 3), (40, .isub, 1), (41, .istore 4, 2), (43, .iload 4, 2), (45, .aload_n 0, 1), (46, .getfield 215, 3), (49, .if_icmp .le 17, 3), (52, .aload_n 0, 1), (53, .iload 4, 2), (55, .putfield 215, 3), (58, .aload_n 0, 1), (59, .iload_n 3, 1), (60, .putfield 218, 3), (63, .goto 22, 3), (66, .iload 4, 2), (68, .aload_n 0, 1), (69, .getfield 215, 3), (72, .if_icmp .ne 13, 3), (75, .aload_n 0, 1), (76, .aload_n 0, 1), (77, .getfield 218, 3), (80, .iload_n 3, 1), (81, .iand, 1), (82, .putfield 218, 3), (85, .iinc 3 1, 3), (88, .goto (-76), 3), (91, .aload_n 0, 1), (92, .getfield 215, 3), (95, .ireturn, 1)] = true := by decide +kernel
theorem cw_Mod_lackOf {k : Cd} (h1 : kMod_lackOf.2.2.2.2.1 + 1 ≤ k.2.2.2.2.1) (h2 : 8 + (kMod_lackOf.2.2.1 + 11) + kMod_lackOf.2.2.2.2.2 ≤ k.2.2.2.2.2) : Cw k kMod_lackOf 2 := ⟨wcode_X11_lackOf, wini_SplitProgramModel, ⟨by decide, by decide, by decide +kernel⟩, h1, h2⟩
def Mod_lackOf_j85 (v0 : Nat) (v1 : Int32) (v2 : Int32) (v3 : Int32) (v4 : Int32) (h : AHeap) : Option ((Int32 × AHeap) ⊕ ((Int32 × AHeap))) :=
  some (Sum.inl (v3 + 1, h))
theorem Mod_lackOf_j85_J {E : JE} {l : Launch} {G : GX} {r : Option Value} {h' : AHeap} (ok : JOK E l G kMod_lackOf 0 0 r h') (v0 : Nat) (v1 : Int32) (v2 : Int32) (v3 : Int32) (v4 : Int32) (h : AHeap) {Y : (Int32 × AHeap) ⊕ ((Int32 × AHeap)) → Prop} (k1 : ∀ s' : Int32 × AHeap, Y (.inl s') → JW E kMod_lackOf 12 [some (.ref v0), some (.int v1), some (.int v2), some (.int s'.1), none] [] s'.2 0 0) (kx91 : ∀ q : Int32 × AHeap, Y (.inr q) → JW E kMod_lackOf 91 [some (.ref v0), some (.int v1), some (.int v2), some (.int q.1), none] [] q.2 0 0) : J E kMod_lackOf (Mod_lackOf_j85 v0 v1 v2 v3 v4 h) Y 85 [some (.ref v0), some (.int v1), some (.int v2), some (.int v3), some (.int v4)] [] h 0 0 := by
  unfold Mod_lackOf_j85
  refine J_iinc (v := v3 + 1) (ls' := [some (.ref v0), some (.int v1), some (.int v2), some (.int (v3 + 1)), some (.int v4)]) (pc' := 88) ok (dOf dX11_lackOf 49 rfl) rfl rfl (by rfl) (Nat.le_of_ble_eq_true rfl) rfl rfl ?_
  refine J_goto (tgt := 12) ok (dOf dX11_lackOf 50 rfl) (by decide) ?_
  refine J_weak (ls' := [some (.ref v0), some (.int v1), some (.int v2), some (.int (v3 + 1)), none]) ⟨rfl, rfl, rfl, rfl, trivial⟩ ?_
  exact J_fin (k1 (v3 + 1, h))
def Mod_lackOf_b12 (v0 : Nat) (v1 : Int32) (v2 : Int32) (s : Int32 × AHeap) : Option ((Int32 × AHeap) ⊕ ((Int32 × AHeap))) :=
  (gfR s.2 v0 11 5).bind fun a3 => (ald 0 s.2 a3 1).bind fun x4 => (if ((1 : Int32) <<< (x4 &&& 31)) ≤ s.1 then some (Sum.inr (s.1, s.2)) else (chk s.2 v0 11).bind fun _ => bnd2 (Mod_needsOf v0 v1 s.1 s.2) fun x6 h5 => (chk h5 v0 11).bind fun _ => bnd2 (Mod_roadsToSet v0 s.1 h5) fun x8 h7 => (chk h7 v0 11).bind fun _ => bnd2 (Mod_stocksOf v0 v2 x8 h7) fun x10 h9 => (gfI h9 v0 11 21).bind fun x11 => (if (x6 - x10) ≤ x11 then (gfI h9 v0 11 21).bind fun x12 => (if ¬ (x6 - x10) = x12 then Mod_lackOf_j85 v0 v1 v2 s.1 (x6 - x10) h9 else (gfI h9 v0 11 22).bind fun x13 => (pfV h9 v0 11 22 (.int (x13 &&& s.1))).bind fun h14 => Mod_lackOf_j85 v0 v1 v2 s.1 (x6 - x10) h14) else (pfV h9 v0 11 21 (.int (x6 - x10))).bind fun h15 => (pfV h15 v0 11 22 (.int s.1)).bind fun h16 => Mod_lackOf_j85 v0 v1 v2 s.1 (x6 - x10) h16))
theorem Mod_lackOf_b12_J {E : JE} {l : Launch} {G : GX} {r : Option Value} {h' : AHeap} (ok : JOK E l G kMod_lackOf 0 0 r h') (v0 : Nat) (v1 : Int32) (v2 : Int32) {Y : (Int32 × AHeap) ⊕ ((Int32 × AHeap)) → Prop} (k1 : ∀ s' : Int32 × AHeap, Y (.inl s') → JW E kMod_lackOf 12 [some (.ref v0), some (.int v1), some (.int v2), some (.int s'.1), none] [] s'.2 0 0) (kx91 : ∀ q : Int32 × AHeap, Y (.inr q) → JW E kMod_lackOf 91 [some (.ref v0), some (.int v1), some (.int v2), some (.int q.1), none] [] q.2 0 0) (s : Int32 × AHeap) : J E kMod_lackOf (Mod_lackOf_b12 v0 v1 v2 s) Y 12 [some (.ref v0), some (.int v1), some (.int v2), some (.int s.1), none] [] s.2 0 0 := by
  unfold Mod_lackOf_b12
  refine J_iload_n (pc' := 13) ok (dOf dX11_lackOf 8 rfl) rfl rfl rfl ?_
  refine J_iconst (v := 1) (pc' := 14) ok (dOf dX11_lackOf 9 rfl) rfl (by decide) ?_
  refine J_aload_n (pc' := 15) ok (dOf dX11_lackOf 10 rfl) rfl rfl rfl ?_
  refine J_getR (ci := 11) (kf := 5) (C := RX11) (T := TX11) (N := 29) (pc' := 18) ok (dOf dX11_lackOf 11 rfl) rfl (by decide) rfl (by decide) win_11 wfl_X11_22 (fun a3 => ?_)
  refine J_iconst (v := 1) (pc' := 19) ok (dOf dX11_lackOf 12 rfl) rfl (by decide) ?_
  refine J_iald (pc' := 20) ok (dOf dX11_lackOf 13 rfl) rfl (fun x4 => ?_)
  refine J_ishl (pc' := 21) ok (dOf dX11_lackOf 14 rfl) rfl ?_
  refine J_icmp_ge (tgt := 91) (pc' := 24) ok (dOf dX11_lackOf 15 rfl) rfl (by decide) ?_ ?_
  · exact J_fin (kx91 (s.1, s.2))
  · refine J_aload_n (pc' := 25) ok (dOf dX11_lackOf 16 rfl) rfl rfl rfl ?_
    refine J_iload_n (pc' := 26) ok (dOf dX11_lackOf 17 rfl) rfl rfl rfl ?_
    refine J_iload_n (pc' := 27) ok (dOf dX11_lackOf 18 rfl) rfl rfl rfl ?_
    refine J_callVi (k2 := kMod_needsOf) (ci := 11) (T := TX11) (N := 29) (as := [.int v1, .int s.1]) (pc' := 30) ok (dOf dX11_lackOf 19 rfl) rfl (cw_Mod_needsOf (by decide) (by decide)) wml_X11_221 winst_X11_needsOf wsel_X11_needsOf rfl ⟨Nat.le_refl 0, Nat.le_refl 0⟩ (Nat.le_of_ble_eq_true rfl) rfl (fun _ _ hf => t_Mod_needsOf hf) (fun x6 h5 => ?_)
    refine J_aload_n (pc' := 31) ok (dOf dX11_lackOf 20 rfl) rfl rfl rfl ?_
    refine J_iload_n (pc' := 32) ok (dOf dX11_lackOf 21 rfl) rfl rfl rfl ?_
    refine J_aload_n (pc' := 33) ok (dOf dX11_lackOf 22 rfl) rfl rfl rfl ?_
    refine J_iload_n (pc' := 34) ok (dOf dX11_lackOf 23 rfl) rfl rfl rfl ?_
    refine J_callVi (k2 := kMod_roadsToSet) (ci := 11) (T := TX11) (N := 29) (as := [.int s.1]) (pc' := 37) ok (dOf dX11_lackOf 24 rfl) rfl (cw_Mod_roadsToSet (by decide) (by decide)) wml_X11_224 winst_X11_roadsToSet wsel_X11_roadsToSet rfl ⟨Nat.le_refl 0, Nat.le_refl 0⟩ (Nat.le_of_ble_eq_true rfl) rfl (fun _ _ hf => t_Mod_roadsToSet hf) (fun x8 h7 => ?_)
    refine J_callVi (k2 := kMod_stocksOf) (ci := 11) (T := TX11) (N := 29) (as := [.int v2, .int x8]) (pc' := 40) ok (dOf dX11_lackOf 25 rfl) rfl (cw_Mod_stocksOf (by decide) (by decide)) wml_X11_227 winst_X11_stocksOf wsel_X11_stocksOf rfl ⟨Nat.le_refl 0, Nat.le_refl 0⟩ (Nat.le_of_ble_eq_true rfl) rfl (fun _ _ hf => t_Mod_stocksOf hf) (fun x10 h9 => ?_)
    refine J_isub (pc' := 41) ok (dOf dX11_lackOf 26 rfl) rfl ?_
    refine J_istore (ls' := [some (.ref v0), some (.int v1), some (.int v2), some (.int s.1), some (.int (x6 - x10))]) (pc' := 43) ok (dOf dX11_lackOf 27 rfl) rfl (Nat.le_of_ble_eq_true rfl) rfl rfl ?_
    refine J_iload (pc' := 45) ok (dOf dX11_lackOf 28 rfl) rfl rfl ?_
    refine J_aload_n (pc' := 46) ok (dOf dX11_lackOf 29 rfl) rfl rfl rfl ?_
    refine J_getI (ci := 11) (kf := 21) (C := RX11) (T := TX11) (N := 29) (pc' := 49) ok (dOf dX11_lackOf 30 rfl) rfl (by decide) rfl (by decide) win_11 wfl_X11_215 (fun x11 => ?_)
    refine J_icmp_le (tgt := 66) (pc' := 52) ok (dOf dX11_lackOf 31 rfl) rfl (by decide) ?_ ?_
    · refine J_iload (pc' := 68) ok (dOf dX11_lackOf 39 rfl) rfl rfl ?_
      refine J_aload_n (pc' := 69) ok (dOf dX11_lackOf 40 rfl) rfl rfl rfl ?_
      refine J_getI (ci := 11) (kf := 21) (C := RX11) (T := TX11) (N := 29) (pc' := 72) ok (dOf dX11_lackOf 41 rfl) rfl (by decide) rfl (by decide) win_11 wfl_X11_215 (fun x12 => ?_)
      refine J_icmp_ne (tgt := 85) (pc' := 75) ok (dOf dX11_lackOf 42 rfl) rfl (by decide) ?_ ?_
      · exact Mod_lackOf_j85_J ok v0 v1 v2 s.1 (x6 - x10) h9 k1 kx91
      · refine J_aload_n (pc' := 76) ok (dOf dX11_lackOf 43 rfl) rfl rfl rfl ?_
        refine J_aload_n (pc' := 77) ok (dOf dX11_lackOf 44 rfl) rfl rfl rfl ?_
        refine J_getI (ci := 11) (kf := 22) (C := RX11) (T := TX11) (N := 29) (pc' := 80) ok (dOf dX11_lackOf 45 rfl) rfl (by decide) rfl (by decide) win_11 wfl_X11_218 (fun x13 => ?_)
        refine J_iload_n (pc' := 81) ok (dOf dX11_lackOf 46 rfl) rfl rfl rfl ?_
        refine J_iand (pc' := 82) ok (dOf dX11_lackOf 47 rfl) rfl ?_
        refine J_putI (ci := 11) (kf := 22) (C := RX11) (T := TX11) (N := 29) (pc' := 85) ok tyX11 (dOf dX11_lackOf 48 rfl) rfl rfl (by decide) win_11 tyX11_ok nmX11 rfl rfl wfl_X11_218 (fun h14 _ => ?_)
        exact Mod_lackOf_j85_J ok v0 v1 v2 s.1 (x6 - x10) h14 k1 kx91
    · refine J_aload_n (pc' := 53) ok (dOf dX11_lackOf 32 rfl) rfl rfl rfl ?_
      refine J_iload (pc' := 55) ok (dOf dX11_lackOf 33 rfl) rfl rfl ?_
      refine J_putI (ci := 11) (kf := 21) (C := RX11) (T := TX11) (N := 29) (pc' := 58) ok tyX11 (dOf dX11_lackOf 34 rfl) rfl rfl (by decide) win_11 tyX11_ok nmX11 rfl rfl wfl_X11_215 (fun h15 _ => ?_)
      refine J_aload_n (pc' := 59) ok (dOf dX11_lackOf 35 rfl) rfl rfl rfl ?_
      refine J_iload_n (pc' := 60) ok (dOf dX11_lackOf 36 rfl) rfl rfl rfl ?_
      refine J_putI (ci := 11) (kf := 22) (C := RX11) (T := TX11) (N := 29) (pc' := 63) ok tyX11 (dOf dX11_lackOf 37 rfl) rfl rfl (by decide) win_11 tyX11_ok nmX11 rfl rfl wfl_X11_218 (fun h16 _ => ?_)
      refine J_goto (tgt := 85) ok (dOf dX11_lackOf 38 rfl) (by decide) ?_
      exact Mod_lackOf_j85_J ok v0 v1 v2 s.1 (x6 - x10) h16 k1 kx91
def Mod_lackOf_j91 (v0 : Nat) (v1 : Int32) (v2 : Int32) (v3 : Int32) (h : AHeap) : Option (Int32 × AHeap) :=
  (gfI h v0 11 21).bind fun x17 => some (x17, h)
theorem Mod_lackOf_j91_J {E : JE} {l : Launch} {G : GX} {v : Int32} {h' : AHeap} (ok : JOK E l G kMod_lackOf 0 0 (some (.int v)) h') (v0 : Nat) (v1 : Int32) (v2 : Int32) (v3 : Int32) (h : AHeap) : J E kMod_lackOf (Mod_lackOf_j91 v0 v1 v2 v3 h) (fun z => z = (v, h')) 91 [some (.ref v0), some (.int v1), some (.int v2), some (.int v3), none] [] h 0 0 := by
  unfold Mod_lackOf_j91
  refine J_aload_n (pc' := 92) ok (dOf dX11_lackOf 51 rfl) rfl rfl rfl ?_
  refine J_getI (ci := 11) (kf := 21) (C := RX11) (T := TX11) (N := 29) (pc' := 95) ok (dOf dX11_lackOf 52 rfl) rfl (by decide) rfl (by decide) win_11 wfl_X11_215 (fun x17 => ?_)
  exact J_ireturn ok (dOf dX11_lackOf 53 rfl) rfl (Eq.refl 0) (Nat.le_refl 0)
def Mod_lackOf (v0 : Nat) (v1 : Int32) (v2 : Int32) (h : AHeap) : Option (Int32 × AHeap) :=
  (pfV h v0 11 21 (.int 0)).bind fun h1 => (pfV h1 v0 11 22 (.int 0)).bind fun h2 => (iter (Mod_lackOf_b12 v0 v1 v2) Lmax (1, h2)).bind (fun (q12 : Int32 × AHeap) => Mod_lackOf_j91 v0 v1 v2 q12.1 q12.2)
theorem t_Mod_lackOf {l : Launch} {G : GX} {v0 : Nat} {v1 : Int32} {v2 : Int32} {h : AHeap} {v : Int32} {h1 : AHeap} (hf : Mod_lackOf v0 v1 v2 h = some (v, h1)) : CT l G kMod_lackOf 0 0 [.ref v0, .int v1, .int v2] h (some (.int v)) h1 := by
  refine CT_of (ls := [some (.ref v0), some (.int v1), some (.int v2), none, none]) (Z := fun z => z = (v, h1)) (by decide +kernel) (Nat.le_of_ble_eq_true rfl) hf rfl ⟨rfl, rfl, rfl, trivial⟩ (fun E ok => ?_)
  unfold Mod_lackOf
  refine J_aload_n (pc' := 1) ok (dOf dX11_lackOf 0 rfl) rfl rfl rfl ?_
  refine J_iconst (v := 0) (pc' := 2) ok (dOf dX11_lackOf 1 rfl) rfl (by decide) ?_
  refine J_putI (ci := 11) (kf := 21) (C := RX11) (T := TX11) (N := 29) (pc' := 5) ok tyX11 (dOf dX11_lackOf 2 rfl) rfl rfl (by decide) win_11 tyX11_ok nmX11 rfl rfl wfl_X11_215 (fun h1 _ => ?_)
  refine J_aload_n (pc' := 6) ok (dOf dX11_lackOf 3 rfl) rfl rfl rfl ?_
  refine J_iconst (v := 0) (pc' := 7) ok (dOf dX11_lackOf 4 rfl) rfl (by decide) ?_
  refine J_putI (ci := 11) (kf := 22) (C := RX11) (T := TX11) (N := 29) (pc' := 10) ok tyX11 (dOf dX11_lackOf 5 rfl) rfl rfl (by decide) win_11 tyX11_ok nmX11 rfl rfl wfl_X11_218 (fun h2 _ => ?_)
  refine J_iconst (v := 1) (pc' := 11) ok (dOf dX11_lackOf 6 rfl) rfl (by decide) ?_
  refine J_istore_n (ls' := [some (.ref v0), some (.int v1), some (.int v2), some (.int 1), none]) (pc' := 12) ok (dOf dX11_lackOf 7 rfl) rfl rfl (Nat.le_of_ble_eq_true rfl) rfl rfl ?_
  refine J_iter (lf := fun z12 => [some (.ref v0), some (.int v1), some (.int v2), some (.int z12.1), none]) (sf := fun _ => []) (hf := fun z12 => z12.2) (px := (fun (q12 : Int32 × AHeap) => 91)) (lx := (fun (q12 : Int32 × AHeap) => [some (.ref v0), some (.int v1), some (.int v2), some (.int q12.1), none])) (sx := (fun (q12 : Int32 × AHeap) => [])) (hx := (fun (q12 : Int32 × AHeap) => q12.2)) (fun Y2 z12 m1 m2 => Mod_lackOf_b12_J ok v0 v1 v2 m1 m2 z12) (fun q12 => ?_) Lmax _
  exact Mod_lackOf_j91_J ok v0 v1 v2 q12.1 q12.2
-- X11_reachOf
abbrev kMod_reachOf : Cd := (yX11_reachOf, cX11_reachOf, 3, (some .int), 1, 22)
theorem dX11_reachOf : dcheck cX11_reachOf [(0, .aload_n 0, 1), (1, .iload_n 2, 1), (2, .iload_n 1, 1), (3, .invokevirtual 148, 3), (6, .iconst (-1), 1), (7, .if_icmp .ne 8, 3), (10, .ldc 230, 2), (12, .goto 16, 3), (15, .aload_n 0, 1), (16, .getfield 51, 3), (19, .iload_n 2, 1), (20, .iaload, 1), (21, .aload_n 0, 1), (22, .iload_n 2, 1), (23, .iload_n 1, 1), (24, .invokevirtual 148, 3), (27, .iadd, 1), (28, .ireturn, 1)] = true := by decide +kernel
theorem cw_Mod_reachOf {k : Cd} (h1 : kMod_reachOf.2.2.2.2.1 + 1 ≤ k.2.2.2.2.1) (h2 : 8 + (kMod_reachOf.2.2.1 + 11) + kMod_reachOf.2.2.2.2.2 ≤ k.2.2.2.2.2) : Cw k kMod_reachOf 2 := ⟨wcode_X11_reachOf, wini_SplitProgramModel, ⟨by decide, by decide, by decide +kernel⟩, h1, h2⟩
def Mod_reachOf_j28 (v0 : Nat) (v1 : Int32) (v2 : Int32) (t0 : Int32) (h : AHeap) : Option (Int32 × AHeap) :=
  some (t0, h)
theorem Mod_reachOf_j28_J {E : JE} {l : Launch} {G : GX} {v : Int32} {h' : AHeap} (ok : JOK E l G kMod_reachOf 0 0 (some (.int v)) h') (v0 : Nat) (v1 : Int32) (v2 : Int32) (t0 : Int32) (h : AHeap) : J E kMod_reachOf (Mod_reachOf_j28 v0 v1 v2 t0 h) (fun z => z = (v, h')) 28 [some (.ref v0), some (.int v1), some (.int v2)] [.int t0] h 0 0 := by
  unfold Mod_reachOf_j28
  exact J_ireturn ok (dOf dX11_reachOf 17 rfl) rfl (Eq.refl 0) (Nat.le_refl 0)
def Mod_reachOf (v0 : Nat) (v1 : Int32) (v2 : Int32) (h : AHeap) : Option (Int32 × AHeap) :=
  (chk h v0 11).bind fun _ => bnd2 (Mod_toll v0 v2 v1 h) fun x2 h1 => (if ¬ x2 = (-1) then (gfR h1 v0 11 23).bind fun a3 => (ald 0 h1 a3 v2).bind fun x4 => (chk h1 v0 11).bind fun _ => bnd2 (Mod_toll v0 v2 v1 h1) fun x6 h5 => Mod_reachOf_j28 v0 v1 v2 (x4 + x6) h5 else Mod_reachOf_j28 v0 v1 v2 1000000000 h1)
theorem t_Mod_reachOf {l : Launch} {G : GX} {v0 : Nat} {v1 : Int32} {v2 : Int32} {h : AHeap} {v : Int32} {h1 : AHeap} (hf : Mod_reachOf v0 v1 v2 h = some (v, h1)) : CT l G kMod_reachOf 0 0 [.ref v0, .int v1, .int v2] h (some (.int v)) h1 := by
  refine CT_of (ls := [some (.ref v0), some (.int v1), some (.int v2)]) (Z := fun z => z = (v, h1)) (by decide +kernel) (Nat.le_of_ble_eq_true rfl) hf rfl ⟨rfl, rfl, rfl, trivial⟩ (fun E ok => ?_)
  unfold Mod_reachOf
  refine J_aload_n (pc' := 1) ok (dOf dX11_reachOf 0 rfl) rfl rfl rfl ?_
  refine J_iload_n (pc' := 2) ok (dOf dX11_reachOf 1 rfl) rfl rfl rfl ?_
  refine J_iload_n (pc' := 3) ok (dOf dX11_reachOf 2 rfl) rfl rfl rfl ?_
  refine J_callVi (k2 := kMod_toll) (ci := 11) (T := TX11) (N := 29) (as := [.int v2, .int v1]) (pc' := 6) ok (dOf dX11_reachOf 3 rfl) rfl (cw_Mod_toll (by decide) (by decide)) wml_X11_148 winst_X11_toll wsel_X11_toll rfl ⟨Nat.le_refl 0, Nat.le_refl 0⟩ (Nat.le_of_ble_eq_true rfl) rfl (fun _ _ hf => t_Mod_toll hf) (fun x2 h1 => ?_)
  refine J_iconst (v := (-1)) (pc' := 7) ok (dOf dX11_reachOf 4 rfl) rfl (by decide) ?_
  refine J_icmp_ne (tgt := 15) (pc' := 10) ok (dOf dX11_reachOf 5 rfl) rfl (by decide) ?_ ?_
  · refine J_aload_n (pc' := 16) ok (dOf dX11_reachOf 8 rfl) rfl rfl rfl ?_
    refine J_getR (ci := 11) (kf := 23) (C := RX11) (T := TX11) (N := 29) (pc' := 19) ok (dOf dX11_reachOf 9 rfl) rfl (by decide) rfl (by decide) win_11 wfl_X11_51 (fun a3 => ?_)
    refine J_iload_n (pc' := 20) ok (dOf dX11_reachOf 10 rfl) rfl rfl rfl ?_
    refine J_iald (pc' := 21) ok (dOf dX11_reachOf 11 rfl) rfl (fun x4 => ?_)
    refine J_aload_n (pc' := 22) ok (dOf dX11_reachOf 12 rfl) rfl rfl rfl ?_
    refine J_iload_n (pc' := 23) ok (dOf dX11_reachOf 13 rfl) rfl rfl rfl ?_
    refine J_iload_n (pc' := 24) ok (dOf dX11_reachOf 14 rfl) rfl rfl rfl ?_
    refine J_callVi (k2 := kMod_toll) (ci := 11) (T := TX11) (N := 29) (as := [.int v2, .int v1]) (pc' := 27) ok (dOf dX11_reachOf 15 rfl) rfl (cw_Mod_toll (by decide) (by decide)) wml_X11_148 winst_X11_toll wsel_X11_toll rfl ⟨Nat.le_refl 0, Nat.le_refl 0⟩ (Nat.le_of_ble_eq_true rfl) rfl (fun _ _ hf => t_Mod_toll hf) (fun x6 h5 => ?_)
    refine J_iadd (pc' := 28) ok (dOf dX11_reachOf 16 rfl) rfl ?_
    exact Mod_reachOf_j28_J ok v0 v1 v2 (x4 + x6) h5
  · refine J_ldc (v := 1000000000) (pc' := 12) ok (dOf dX11_reachOf 6 rfl) rfl wcon_X11_230 ?_
    refine J_goto (tgt := 28) ok (dOf dX11_reachOf 7 rfl) (by decide) ?_
    exact Mod_reachOf_j28_J ok v0 v1 v2 1000000000 h1
-- X11_laysNearest
abbrev kMod_laysNearest : Cd := (yX11_laysNearest, cX11_laysNearest, 3, none, 2, 44)
theorem dX11_laysNearest : dcheck cX11_laysNearest [(0, .iconst 0, 1), (1, .istore_n 1, 1), (2, .iload_n 1, 1), (3, .bipush 6, 2), (5, .if_icmp .ge 155, 3), (8, .aload_n 0, 1), (9, .getfield 54, 3), (12, .iload_n 1, 1), (13, .ldc 230, 2), (15, .iastore, 1), (16, .iconst 0, 1), (17, .istore_n 2, 1), (18, .iload_n 2, 1), (19, .iconst 4, 1), (20, .if_icmp .ge 45, 3), (23, .aload_n 0, 1), (24, .getfield 54, 3), (27, .iload_n 1, 1), (28, .aload_n 0, 1), (29, .iload_n 1, 1), (30, .iload_n 2, 1), (31, .invokevirtual 231, 3), (34, .aload_n 0, 1), (35, .getfield 54, 3), (38, .iload_n 1, 1), (39, .iaload, 1), (40, .if_icmp .ge 12, 3), (43, .aload_n 0, 1), (44, .iload_n 1, 1), (45, .iload_n 2, 1), (46, .invokevirtual 231, 3), (49, .goto 9, 3), (52, .aload_n 0, 1), (53, .getfield 54, 3), (56, .iload_n 1, 1), (57, .iaload, 1), (58, .iastore, 1), (59, .iinc 2 1, 3), (62, .goto (-44), 3), (65, .aload_n 0, 1), (66, .getfield 57, 3), (69, .iload_n 1, 1), (70, .iconst 0, 1), (71, .iastore, 1), (72, .iconst 0, 1), (73, .istore_n 2, 1), (74, .iload_n 2, 1), (75, .iconst 4, 1), (76, .if_icmp .ge 51, 3), (79, .aload_n 0, 1), (80, .getfield 57, 3), (83, .iload_n 1, 1), (84, .dup2, 1), (85, .iaload, 1), (86, .aload_n 0, 1), (87, .getfield 54, 3), (90, .iload_n 1, 1), (91, .iaload, 1), (92, .ldc 230, 2), (94, .if_icmp .ge 24, 3), (97, .aload_n 0, 1), (98, .iload_n 1, 1), (99, .iload_n 2, 1), (100, .invokevirtual 231, 3), (103, .aload_n 0, 1), (104, .getfield 54, 3), (107, .iload_n 1, 1), (108, .iaload, 1), (109, .if_icmp .ne 9, 3), (112, .iconst 1, 1), (113, .iload_n 2, 1), (114, .ishl, 1), (115, .goto 4, 3), (118, .iconst 0, 1), (119, .ior, 1), (120, .iastore, 1), (121, .iinc 2 1, 3), (124, .goto (-50), 3), (127, .aload_n 0, 1), (128, .getfield 54, 3), (131, .iload_n 1, 1), (132, .aload_n 0, 1), (133, .getfield 54, 3), (136, .iload_n 1, 1), (137, .iaload, 1), (138, .ldc 230, 2), (140, .if_icmp .ge 12, 3), (143, .aload_n 0, 1), (144, .getfield 54, 3), (147, .iload_n 1, 1), (148, .iaload, 1), (149, .goto 4, 3), (152, .iconst 0, 1), (153, .iastore, 1), (154, .iinc 1 1, 3), (157, .goto (-155), 3), (160, .return_, 1)] = true := by decide +kernel
theorem cw_Mod_laysNearest {k : Cd} (h1 : kMod_laysNearest.2.2.2.2.1 + 1 ≤ k.2.2.2.2.1) (h2 : 8 + (kMod_laysNearest.2.2.1 + 11) + kMod_laysNearest.2.2.2.2.2 ≤ k.2.2.2.2.2) : Cw k kMod_laysNearest 0 := ⟨wcode_X11_laysNearest, wini_SplitProgramModel, ⟨by decide, by decide, by decide +kernel⟩, h1, h2⟩
def Mod_laysNearest_j58 (v0 : Nat) (v1 : Int32) (v2 : Int32) (t0 : Nat) (t1 : Int32) (t2 : Int32) (h : AHeap) : Option ((Int32 × AHeap) ⊕ ((Int32 × AHeap))) :=
  (ast 0 h t0 t1 t2).bind fun h10 => some (Sum.inl (v2 + 1, h10))
theorem Mod_laysNearest_j58_J {E : JE} {l : Launch} {G : GX} {r : Option Value} {h' : AHeap} (ok : JOK E l G kMod_laysNearest 0 0 r h') (v0 : Nat) (v1 : Int32) (v2 : Int32) (t0 : Nat) (t1 : Int32) (t2 : Int32) (h : AHeap) {Y : (Int32 × AHeap) ⊕ ((Int32 × AHeap)) → Prop} (k1 : ∀ s' : Int32 × AHeap, Y (.inl s') → JW E kMod_laysNearest 18 [some (.ref v0), some (.int v1), some (.int s'.1)] [] s'.2 0 0) (kx65 : ∀ q : Int32 × AHeap, Y (.inr q) → JW E kMod_laysNearest 65 [some (.ref v0), some (.int v1), some (.int q.1)] [] q.2 0 0) : J E kMod_laysNearest (Mod_laysNearest_j58 v0 v1 v2 t0 t1 t2 h) Y 58 [some (.ref v0), some (.int v1), some (.int v2)] [.int t2, .int t1, .ref t0] h 0 0 := by
  unfold Mod_laysNearest_j58
  refine J_iast (pc' := 59) ok (dOf dX11_laysNearest 36 rfl) rfl (fun h10 _ => ?_)
  refine J_iinc (v := v2 + 1) (ls' := [some (.ref v0), some (.int v1), some (.int (v2 + 1))]) (pc' := 62) ok (dOf dX11_laysNearest 37 rfl) rfl rfl (by rfl) (Nat.le_of_ble_eq_true rfl) rfl rfl ?_
  refine J_goto (tgt := 18) ok (dOf dX11_laysNearest 38 rfl) (by decide) ?_
  exact J_fin (k1 (v2 + 1, h10))
def Mod_laysNearest_b18 (v0 : Nat) (v1 : Int32) (s : Int32 × AHeap) : Option ((Int32 × AHeap) ⊕ ((Int32 × AHeap))) :=
  (if 4 ≤ s.1 then some (Sum.inr (s.1, s.2)) else (gfR s.2 v0 11 24).bind fun a3 => (chk s.2 v0 11).bind fun _ => bnd2 (Mod_reachOf v0 v1 s.1 s.2) fun x5 h4 => (gfR h4 v0 11 24).bind fun a6 => (ald 0 h4 a6 v1).bind fun x7 => (if x7 ≤ x5 then (gfR h4 v0 11 24).bind fun a8 => (ald 0 h4 a8 v1).bind fun x9 => Mod_laysNearest_j58 v0 v1 s.1 a3 v1 x9 h4 else (chk h4 v0 11).bind fun _ => bnd2 (Mod_reachOf v0 v1 s.1 h4) fun x12 h11 => Mod_laysNearest_j58 v0 v1 s.1 a3 v1 x12 h11))
theorem Mod_laysNearest_b18_J {E : JE} {l : Launch} {G : GX} {r : Option Value} {h' : AHeap} (ok : JOK E l G kMod_laysNearest 0 0 r h') (v0 : Nat) (v1 : Int32) {Y : (Int32 × AHeap) ⊕ ((Int32 × AHeap)) → Prop} (k1 : ∀ s' : Int32 × AHeap, Y (.inl s') → JW E kMod_laysNearest 18 [some (.ref v0), some (.int v1), some (.int s'.1)] [] s'.2 0 0) (kx65 : ∀ q : Int32 × AHeap, Y (.inr q) → JW E kMod_laysNearest 65 [some (.ref v0), some (.int v1), some (.int q.1)] [] q.2 0 0) (s : Int32 × AHeap) : J E kMod_laysNearest (Mod_laysNearest_b18 v0 v1 s) Y 18 [some (.ref v0), some (.int v1), some (.int s.1)] [] s.2 0 0 := by
  unfold Mod_laysNearest_b18
  refine J_iload_n (pc' := 19) ok (dOf dX11_laysNearest 12 rfl) rfl rfl rfl ?_
  refine J_iconst (v := 4) (pc' := 20) ok (dOf dX11_laysNearest 13 rfl) rfl (by decide) ?_
  refine J_icmp_ge (tgt := 65) (pc' := 23) ok (dOf dX11_laysNearest 14 rfl) rfl (by decide) ?_ ?_
  · exact J_fin (kx65 (s.1, s.2))
  · refine J_aload_n (pc' := 24) ok (dOf dX11_laysNearest 15 rfl) rfl rfl rfl ?_
    refine J_getR (ci := 11) (kf := 24) (C := RX11) (T := TX11) (N := 29) (pc' := 27) ok (dOf dX11_laysNearest 16 rfl) rfl (by decide) rfl (by decide) win_11 wfl_X11_54 (fun a3 => ?_)
    refine J_iload_n (pc' := 28) ok (dOf dX11_laysNearest 17 rfl) rfl rfl rfl ?_
    refine J_aload_n (pc' := 29) ok (dOf dX11_laysNearest 18 rfl) rfl rfl rfl ?_
    refine J_iload_n (pc' := 30) ok (dOf dX11_laysNearest 19 rfl) rfl rfl rfl ?_
    refine J_iload_n (pc' := 31) ok (dOf dX11_laysNearest 20 rfl) rfl rfl rfl ?_
    refine J_callVi (k2 := kMod_reachOf) (ci := 11) (T := TX11) (N := 29) (as := [.int v1, .int s.1]) (pc' := 34) ok (dOf dX11_laysNearest 21 rfl) rfl (cw_Mod_reachOf (by decide) (by decide)) wml_X11_231 winst_X11_reachOf wsel_X11_reachOf rfl ⟨Nat.le_refl 0, Nat.le_refl 0⟩ (Nat.le_of_ble_eq_true rfl) rfl (fun _ _ hf => t_Mod_reachOf hf) (fun x5 h4 => ?_)
    refine J_aload_n (pc' := 35) ok (dOf dX11_laysNearest 22 rfl) rfl rfl rfl ?_
    refine J_getR (ci := 11) (kf := 24) (C := RX11) (T := TX11) (N := 29) (pc' := 38) ok (dOf dX11_laysNearest 23 rfl) rfl (by decide) rfl (by decide) win_11 wfl_X11_54 (fun a6 => ?_)
    refine J_iload_n (pc' := 39) ok (dOf dX11_laysNearest 24 rfl) rfl rfl rfl ?_
    refine J_iald (pc' := 40) ok (dOf dX11_laysNearest 25 rfl) rfl (fun x7 => ?_)
    refine J_icmp_ge (tgt := 52) (pc' := 43) ok (dOf dX11_laysNearest 26 rfl) rfl (by decide) ?_ ?_
    · refine J_aload_n (pc' := 53) ok (dOf dX11_laysNearest 32 rfl) rfl rfl rfl ?_
      refine J_getR (ci := 11) (kf := 24) (C := RX11) (T := TX11) (N := 29) (pc' := 56) ok (dOf dX11_laysNearest 33 rfl) rfl (by decide) rfl (by decide) win_11 wfl_X11_54 (fun a8 => ?_)
      refine J_iload_n (pc' := 57) ok (dOf dX11_laysNearest 34 rfl) rfl rfl rfl ?_
      refine J_iald (pc' := 58) ok (dOf dX11_laysNearest 35 rfl) rfl (fun x9 => ?_)
      exact Mod_laysNearest_j58_J ok v0 v1 s.1 a3 v1 x9 h4 k1 kx65
    · refine J_aload_n (pc' := 44) ok (dOf dX11_laysNearest 27 rfl) rfl rfl rfl ?_
      refine J_iload_n (pc' := 45) ok (dOf dX11_laysNearest 28 rfl) rfl rfl rfl ?_
      refine J_iload_n (pc' := 46) ok (dOf dX11_laysNearest 29 rfl) rfl rfl rfl ?_
      refine J_callVi (k2 := kMod_reachOf) (ci := 11) (T := TX11) (N := 29) (as := [.int v1, .int s.1]) (pc' := 49) ok (dOf dX11_laysNearest 30 rfl) rfl (cw_Mod_reachOf (by decide) (by decide)) wml_X11_231 winst_X11_reachOf wsel_X11_reachOf rfl ⟨Nat.le_refl 0, Nat.le_refl 0⟩ (Nat.le_of_ble_eq_true rfl) rfl (fun _ _ hf => t_Mod_reachOf hf) (fun x12 h11 => ?_)
      refine J_goto (tgt := 58) ok (dOf dX11_laysNearest 31 rfl) (by decide) ?_
      exact Mod_laysNearest_j58_J ok v0 v1 s.1 a3 v1 x12 h11 k1 kx65
def Mod_laysNearest_j119 (v0 : Nat) (v1 : Int32) (v2 : Int32) (t0 : Nat) (t1 : Int32) (t2 : Int32) (t3 : Int32) (h : AHeap) : Option ((Int32 × AHeap) ⊕ ((Int32 × AHeap))) :=
  (ast 0 h t0 t1 (t2 ||| t3)).bind fun h19 => some (Sum.inl (v2 + 1, h19))
theorem Mod_laysNearest_j119_J {E : JE} {l : Launch} {G : GX} {r : Option Value} {h' : AHeap} (ok : JOK E l G kMod_laysNearest 0 0 r h') (v0 : Nat) (v1 : Int32) (v2 : Int32) (t0 : Nat) (t1 : Int32) (t2 : Int32) (t3 : Int32) (h : AHeap) {Y : (Int32 × AHeap) ⊕ ((Int32 × AHeap)) → Prop} (k1 : ∀ s' : Int32 × AHeap, Y (.inl s') → JW E kMod_laysNearest 74 [some (.ref v0), some (.int v1), some (.int s'.1)] [] s'.2 0 0) (kx127 : ∀ q : Int32 × AHeap, Y (.inr q) → JW E kMod_laysNearest 127 [some (.ref v0), some (.int v1), some (.int q.1)] [] q.2 0 0) : J E kMod_laysNearest (Mod_laysNearest_j119 v0 v1 v2 t0 t1 t2 t3 h) Y 119 [some (.ref v0), some (.int v1), some (.int v2)] [.int t3, .int t2, .int t1, .ref t0] h 0 0 := by
  unfold Mod_laysNearest_j119
  refine J_ior (pc' := 120) ok (dOf dX11_laysNearest 74 rfl) rfl ?_
  refine J_iast (pc' := 121) ok (dOf dX11_laysNearest 75 rfl) rfl (fun h19 _ => ?_)
  refine J_iinc (v := v2 + 1) (ls' := [some (.ref v0), some (.int v1), some (.int (v2 + 1))]) (pc' := 124) ok (dOf dX11_laysNearest 76 rfl) rfl rfl (by rfl) (Nat.le_of_ble_eq_true rfl) rfl rfl ?_
  refine J_goto (tgt := 74) ok (dOf dX11_laysNearest 77 rfl) (by decide) ?_
  exact J_fin (k1 (v2 + 1, h19))
def Mod_laysNearest_j118 (v0 : Nat) (v1 : Int32) (v2 : Int32) (t0 : Nat) (t1 : Int32) (t2 : Int32) (h : AHeap) : Option ((Int32 × AHeap) ⊕ ((Int32 × AHeap))) :=
  Mod_laysNearest_j119 v0 v1 v2 t0 t1 t2 0 h
theorem Mod_laysNearest_j118_J {E : JE} {l : Launch} {G : GX} {r : Option Value} {h' : AHeap} (ok : JOK E l G kMod_laysNearest 0 0 r h') (v0 : Nat) (v1 : Int32) (v2 : Int32) (t0 : Nat) (t1 : Int32) (t2 : Int32) (h : AHeap) {Y : (Int32 × AHeap) ⊕ ((Int32 × AHeap)) → Prop} (k1 : ∀ s' : Int32 × AHeap, Y (.inl s') → JW E kMod_laysNearest 74 [some (.ref v0), some (.int v1), some (.int s'.1)] [] s'.2 0 0) (kx127 : ∀ q : Int32 × AHeap, Y (.inr q) → JW E kMod_laysNearest 127 [some (.ref v0), some (.int v1), some (.int q.1)] [] q.2 0 0) : J E kMod_laysNearest (Mod_laysNearest_j118 v0 v1 v2 t0 t1 t2 h) Y 118 [some (.ref v0), some (.int v1), some (.int v2)] [.int t2, .int t1, .ref t0] h 0 0 := by
  unfold Mod_laysNearest_j118
  refine J_iconst (v := 0) (pc' := 119) ok (dOf dX11_laysNearest 73 rfl) rfl (by decide) ?_
  exact Mod_laysNearest_j119_J ok v0 v1 v2 t0 t1 t2 0 h k1 kx127
def Mod_laysNearest_b74 (v0 : Nat) (v1 : Int32) (s : Int32 × AHeap) : Option ((Int32 × AHeap) ⊕ ((Int32 × AHeap))) :=
  (if 4 ≤ s.1 then some (Sum.inr (s.1, s.2)) else (gfR s.2 v0 11 25).bind fun a15 => (ald 0 s.2 a15 v1).bind fun x16 => (gfR s.2 v0 11 24).bind fun a17 => (ald 0 s.2 a17 v1).bind fun x18 => (if 1000000000 ≤ x18 then Mod_laysNearest_j118 v0 v1 s.1 a15 v1 x16 s.2 else (chk s.2 v0 11).bind fun _ => bnd2 (Mod_reachOf v0 v1 s.1 s.2) fun x21 h20 => (gfR h20 v0 11 24).bind fun a22 => (ald 0 h20 a22 v1).bind fun x23 => (if ¬ x21 = x23 then Mod_laysNearest_j118 v0 v1 s.1 a15 v1 x16 h20 else Mod_laysNearest_j119 v0 v1 s.1 a15 v1 x16 ((1 : Int32) <<< (s.1 &&& 31)) h20)))
theorem Mod_laysNearest_b74_J {E : JE} {l : Launch} {G : GX} {r : Option Value} {h' : AHeap} (ok : JOK E l G kMod_laysNearest 0 0 r h') (v0 : Nat) (v1 : Int32) {Y : (Int32 × AHeap) ⊕ ((Int32 × AHeap)) → Prop} (k1 : ∀ s' : Int32 × AHeap, Y (.inl s') → JW E kMod_laysNearest 74 [some (.ref v0), some (.int v1), some (.int s'.1)] [] s'.2 0 0) (kx127 : ∀ q : Int32 × AHeap, Y (.inr q) → JW E kMod_laysNearest 127 [some (.ref v0), some (.int v1), some (.int q.1)] [] q.2 0 0) (s : Int32 × AHeap) : J E kMod_laysNearest (Mod_laysNearest_b74 v0 v1 s) Y 74 [some (.ref v0), some (.int v1), some (.int s.1)] [] s.2 0 0 := by
  unfold Mod_laysNearest_b74
  refine J_iload_n (pc' := 75) ok (dOf dX11_laysNearest 46 rfl) rfl rfl rfl ?_
  refine J_iconst (v := 4) (pc' := 76) ok (dOf dX11_laysNearest 47 rfl) rfl (by decide) ?_
  refine J_icmp_ge (tgt := 127) (pc' := 79) ok (dOf dX11_laysNearest 48 rfl) rfl (by decide) ?_ ?_
  · exact J_fin (kx127 (s.1, s.2))
  · refine J_aload_n (pc' := 80) ok (dOf dX11_laysNearest 49 rfl) rfl rfl rfl ?_
    refine J_getR (ci := 11) (kf := 25) (C := RX11) (T := TX11) (N := 29) (pc' := 83) ok (dOf dX11_laysNearest 50 rfl) rfl (by decide) rfl (by decide) win_11 wfl_X11_57 (fun a15 => ?_)
    refine J_iload_n (pc' := 84) ok (dOf dX11_laysNearest 51 rfl) rfl rfl rfl ?_
    refine J_dup2 (pc' := 85) ok (dOf dX11_laysNearest 52 rfl) rfl rfl rfl ?_
    refine J_iald (pc' := 86) ok (dOf dX11_laysNearest 53 rfl) rfl (fun x16 => ?_)
    refine J_aload_n (pc' := 87) ok (dOf dX11_laysNearest 54 rfl) rfl rfl rfl ?_
    refine J_getR (ci := 11) (kf := 24) (C := RX11) (T := TX11) (N := 29) (pc' := 90) ok (dOf dX11_laysNearest 55 rfl) rfl (by decide) rfl (by decide) win_11 wfl_X11_54 (fun a17 => ?_)
    refine J_iload_n (pc' := 91) ok (dOf dX11_laysNearest 56 rfl) rfl rfl rfl ?_
    refine J_iald (pc' := 92) ok (dOf dX11_laysNearest 57 rfl) rfl (fun x18 => ?_)
    refine J_ldc (v := 1000000000) (pc' := 94) ok (dOf dX11_laysNearest 58 rfl) rfl wcon_X11_230 ?_
    refine J_icmp_ge (tgt := 118) (pc' := 97) ok (dOf dX11_laysNearest 59 rfl) rfl (by decide) ?_ ?_
    · exact Mod_laysNearest_j118_J ok v0 v1 s.1 a15 v1 x16 s.2 k1 kx127
    · refine J_aload_n (pc' := 98) ok (dOf dX11_laysNearest 60 rfl) rfl rfl rfl ?_
      refine J_iload_n (pc' := 99) ok (dOf dX11_laysNearest 61 rfl) rfl rfl rfl ?_
      refine J_iload_n (pc' := 100) ok (dOf dX11_laysNearest 62 rfl) rfl rfl rfl ?_
      refine J_callVi (k2 := kMod_reachOf) (ci := 11) (T := TX11) (N := 29) (as := [.int v1, .int s.1]) (pc' := 103) ok (dOf dX11_laysNearest 63 rfl) rfl (cw_Mod_reachOf (by decide) (by decide)) wml_X11_231 winst_X11_reachOf wsel_X11_reachOf rfl ⟨Nat.le_refl 0, Nat.le_refl 0⟩ (Nat.le_of_ble_eq_true rfl) rfl (fun _ _ hf => t_Mod_reachOf hf) (fun x21 h20 => ?_)
      refine J_aload_n (pc' := 104) ok (dOf dX11_laysNearest 64 rfl) rfl rfl rfl ?_
      refine J_getR (ci := 11) (kf := 24) (C := RX11) (T := TX11) (N := 29) (pc' := 107) ok (dOf dX11_laysNearest 65 rfl) rfl (by decide) rfl (by decide) win_11 wfl_X11_54 (fun a22 => ?_)
      refine J_iload_n (pc' := 108) ok (dOf dX11_laysNearest 66 rfl) rfl rfl rfl ?_
      refine J_iald (pc' := 109) ok (dOf dX11_laysNearest 67 rfl) rfl (fun x23 => ?_)
      refine J_icmp_ne (tgt := 118) (pc' := 112) ok (dOf dX11_laysNearest 68 rfl) rfl (by decide) ?_ ?_
      · exact Mod_laysNearest_j118_J ok v0 v1 s.1 a15 v1 x16 h20 k1 kx127
      · refine J_iconst (v := 1) (pc' := 113) ok (dOf dX11_laysNearest 69 rfl) rfl (by decide) ?_
        refine J_iload_n (pc' := 114) ok (dOf dX11_laysNearest 70 rfl) rfl rfl rfl ?_
        refine J_ishl (pc' := 115) ok (dOf dX11_laysNearest 71 rfl) rfl ?_
        refine J_goto (tgt := 119) ok (dOf dX11_laysNearest 72 rfl) (by decide) ?_
        exact Mod_laysNearest_j119_J ok v0 v1 s.1 a15 v1 x16 ((1 : Int32) <<< (s.1 &&& 31)) h20 k1 kx127
def Mod_laysNearest_j153 (v0 : Nat) (v1 : Int32) (v2 : Int32) (t0 : Nat) (t1 : Int32) (t2 : Int32) (h : AHeap) : Option ((Int32 × AHeap) ⊕ ((Int32 × AHeap))) :=
  (ast 0 h t0 t1 t2).bind fun h27 => some (Sum.inl (v1 + 1, h27))
theorem Mod_laysNearest_j153_J {E : JE} {l : Launch} {G : GX} {r : Option Value} {h' : AHeap} (ok : JOK E l G kMod_laysNearest 0 0 r h') (v0 : Nat) (v1 : Int32) (v2 : Int32) (t0 : Nat) (t1 : Int32) (t2 : Int32) (h : AHeap) {Y : (Int32 × AHeap) ⊕ ((Int32 × AHeap)) → Prop} (k1 : ∀ s' : Int32 × AHeap, Y (.inl s') → JW E kMod_laysNearest 2 [some (.ref v0), some (.int s'.1), none] [] s'.2 0 0) (kx160 : ∀ q : Int32 × AHeap, Y (.inr q) → JW E kMod_laysNearest 160 [some (.ref v0), some (.int q.1), none] [] q.2 0 0) : J E kMod_laysNearest (Mod_laysNearest_j153 v0 v1 v2 t0 t1 t2 h) Y 153 [some (.ref v0), some (.int v1), some (.int v2)] [.int t2, .int t1, .ref t0] h 0 0 := by
  unfold Mod_laysNearest_j153
  refine J_iast (pc' := 154) ok (dOf dX11_laysNearest 93 rfl) rfl (fun h27 _ => ?_)
  refine J_iinc (v := v1 + 1) (ls' := [some (.ref v0), some (.int (v1 + 1)), some (.int v2)]) (pc' := 157) ok (dOf dX11_laysNearest 94 rfl) rfl rfl (by rfl) (Nat.le_of_ble_eq_true rfl) rfl rfl ?_
  refine J_goto (tgt := 2) ok (dOf dX11_laysNearest 95 rfl) (by decide) ?_
  refine J_weak (ls' := [some (.ref v0), some (.int (v1 + 1)), none]) ⟨rfl, rfl, trivial⟩ ?_
  exact J_fin (k1 (v1 + 1, h27))
def Mod_laysNearest_j127 (v0 : Nat) (v1 : Int32) (v2 : Int32) (h : AHeap) : Option ((Int32 × AHeap) ⊕ ((Int32 × AHeap))) :=
  (gfR h v0 11 24).bind fun a24 => (gfR h v0 11 24).bind fun a25 => (ald 0 h a25 v1).bind fun x26 => (if 1000000000 ≤ x26 then Mod_laysNearest_j153 v0 v1 v2 a24 v1 0 h else (gfR h v0 11 24).bind fun a28 => (ald 0 h a28 v1).bind fun x29 => Mod_laysNearest_j153 v0 v1 v2 a24 v1 x29 h)
theorem Mod_laysNearest_j127_J {E : JE} {l : Launch} {G : GX} {r : Option Value} {h' : AHeap} (ok : JOK E l G kMod_laysNearest 0 0 r h') (v0 : Nat) (v1 : Int32) (v2 : Int32) (h : AHeap) {Y : (Int32 × AHeap) ⊕ ((Int32 × AHeap)) → Prop} (k1 : ∀ s' : Int32 × AHeap, Y (.inl s') → JW E kMod_laysNearest 2 [some (.ref v0), some (.int s'.1), none] [] s'.2 0 0) (kx160 : ∀ q : Int32 × AHeap, Y (.inr q) → JW E kMod_laysNearest 160 [some (.ref v0), some (.int q.1), none] [] q.2 0 0) : J E kMod_laysNearest (Mod_laysNearest_j127 v0 v1 v2 h) Y 127 [some (.ref v0), some (.int v1), some (.int v2)] [] h 0 0 := by
  unfold Mod_laysNearest_j127
  refine J_aload_n (pc' := 128) ok (dOf dX11_laysNearest 78 rfl) rfl rfl rfl ?_
  refine J_getR (ci := 11) (kf := 24) (C := RX11) (T := TX11) (N := 29) (pc' := 131) ok (dOf dX11_laysNearest 79 rfl) rfl (by decide) rfl (by decide) win_11 wfl_X11_54 (fun a24 => ?_)
  refine J_iload_n (pc' := 132) ok (dOf dX11_laysNearest 80 rfl) rfl rfl rfl ?_
  refine J_aload_n (pc' := 133) ok (dOf dX11_laysNearest 81 rfl) rfl rfl rfl ?_
  refine J_getR (ci := 11) (kf := 24) (C := RX11) (T := TX11) (N := 29) (pc' := 136) ok (dOf dX11_laysNearest 82 rfl) rfl (by decide) rfl (by decide) win_11 wfl_X11_54 (fun a25 => ?_)
  refine J_iload_n (pc' := 137) ok (dOf dX11_laysNearest 83 rfl) rfl rfl rfl ?_
  refine J_iald (pc' := 138) ok (dOf dX11_laysNearest 84 rfl) rfl (fun x26 => ?_)
  refine J_ldc (v := 1000000000) (pc' := 140) ok (dOf dX11_laysNearest 85 rfl) rfl wcon_X11_230 ?_
  refine J_icmp_ge (tgt := 152) (pc' := 143) ok (dOf dX11_laysNearest 86 rfl) rfl (by decide) ?_ ?_
  · refine J_iconst (v := 0) (pc' := 153) ok (dOf dX11_laysNearest 92 rfl) rfl (by decide) ?_
    exact Mod_laysNearest_j153_J ok v0 v1 v2 a24 v1 0 h k1 kx160
  · refine J_aload_n (pc' := 144) ok (dOf dX11_laysNearest 87 rfl) rfl rfl rfl ?_
    refine J_getR (ci := 11) (kf := 24) (C := RX11) (T := TX11) (N := 29) (pc' := 147) ok (dOf dX11_laysNearest 88 rfl) rfl (by decide) rfl (by decide) win_11 wfl_X11_54 (fun a28 => ?_)
    refine J_iload_n (pc' := 148) ok (dOf dX11_laysNearest 89 rfl) rfl rfl rfl ?_
    refine J_iald (pc' := 149) ok (dOf dX11_laysNearest 90 rfl) rfl (fun x29 => ?_)
    refine J_goto (tgt := 153) ok (dOf dX11_laysNearest 91 rfl) (by decide) ?_
    exact Mod_laysNearest_j153_J ok v0 v1 v2 a24 v1 x29 h k1 kx160
def Mod_laysNearest_j65 (v0 : Nat) (v1 : Int32) (v2 : Int32) (h : AHeap) : Option ((Int32 × AHeap) ⊕ ((Int32 × AHeap))) :=
  (gfR h v0 11 25).bind fun a13 => (ast 0 h a13 v1 0).bind fun h14 => (iter (Mod_laysNearest_b74 v0 v1) Lmax (0, h14)).bind (fun (q74 : Int32 × AHeap) => Mod_laysNearest_j127 v0 v1 q74.1 q74.2)
theorem Mod_laysNearest_j65_J {E : JE} {l : Launch} {G : GX} {r : Option Value} {h' : AHeap} (ok : JOK E l G kMod_laysNearest 0 0 r h') (v0 : Nat) (v1 : Int32) (v2 : Int32) (h : AHeap) {Y : (Int32 × AHeap) ⊕ ((Int32 × AHeap)) → Prop} (k1 : ∀ s' : Int32 × AHeap, Y (.inl s') → JW E kMod_laysNearest 2 [some (.ref v0), some (.int s'.1), none] [] s'.2 0 0) (kx160 : ∀ q : Int32 × AHeap, Y (.inr q) → JW E kMod_laysNearest 160 [some (.ref v0), some (.int q.1), none] [] q.2 0 0) : J E kMod_laysNearest (Mod_laysNearest_j65 v0 v1 v2 h) Y 65 [some (.ref v0), some (.int v1), some (.int v2)] [] h 0 0 := by
  unfold Mod_laysNearest_j65
  refine J_aload_n (pc' := 66) ok (dOf dX11_laysNearest 39 rfl) rfl rfl rfl ?_
  refine J_getR (ci := 11) (kf := 25) (C := RX11) (T := TX11) (N := 29) (pc' := 69) ok (dOf dX11_laysNearest 40 rfl) rfl (by decide) rfl (by decide) win_11 wfl_X11_57 (fun a13 => ?_)
  refine J_iload_n (pc' := 70) ok (dOf dX11_laysNearest 41 rfl) rfl rfl rfl ?_
  refine J_iconst (v := 0) (pc' := 71) ok (dOf dX11_laysNearest 42 rfl) rfl (by decide) ?_
  refine J_iast (pc' := 72) ok (dOf dX11_laysNearest 43 rfl) rfl (fun h14 _ => ?_)
  refine J_iconst (v := 0) (pc' := 73) ok (dOf dX11_laysNearest 44 rfl) rfl (by decide) ?_
  refine J_istore_n (ls' := [some (.ref v0), some (.int v1), some (.int 0)]) (pc' := 74) ok (dOf dX11_laysNearest 45 rfl) rfl rfl (Nat.le_of_ble_eq_true rfl) rfl rfl ?_
  refine J_iter (lf := fun z74 => [some (.ref v0), some (.int v1), some (.int z74.1)]) (sf := fun _ => []) (hf := fun z74 => z74.2) (px := (fun (q74 : Int32 × AHeap) => 127)) (lx := (fun (q74 : Int32 × AHeap) => [some (.ref v0), some (.int v1), some (.int q74.1)])) (sx := (fun (q74 : Int32 × AHeap) => [])) (hx := (fun (q74 : Int32 × AHeap) => q74.2)) (fun Y2 z74 m1 m2 => Mod_laysNearest_b74_J ok v0 v1 m1 m2 z74) (fun q74 => ?_) Lmax _
  exact Mod_laysNearest_j127_J ok v0 v1 q74.1 q74.2 k1 kx160
def Mod_laysNearest_b2 (v0 : Nat) (s : Int32 × AHeap) : Option ((Int32 × AHeap) ⊕ ((Int32 × AHeap))) :=
  (if 6 ≤ s.1 then some (Sum.inr (s.1, s.2)) else (gfR s.2 v0 11 24).bind fun a1 => (ast 0 s.2 a1 s.1 1000000000).bind fun h2 => (iter (Mod_laysNearest_b18 v0 s.1) Lmax (0, h2)).bind (fun (q18 : Int32 × AHeap) => Mod_laysNearest_j65 v0 s.1 q18.1 q18.2))
theorem Mod_laysNearest_b2_J {E : JE} {l : Launch} {G : GX} {r : Option Value} {h' : AHeap} (ok : JOK E l G kMod_laysNearest 0 0 r h') (v0 : Nat) {Y : (Int32 × AHeap) ⊕ ((Int32 × AHeap)) → Prop} (k1 : ∀ s' : Int32 × AHeap, Y (.inl s') → JW E kMod_laysNearest 2 [some (.ref v0), some (.int s'.1), none] [] s'.2 0 0) (kx160 : ∀ q : Int32 × AHeap, Y (.inr q) → JW E kMod_laysNearest 160 [some (.ref v0), some (.int q.1), none] [] q.2 0 0) (s : Int32 × AHeap) : J E kMod_laysNearest (Mod_laysNearest_b2 v0 s) Y 2 [some (.ref v0), some (.int s.1), none] [] s.2 0 0 := by
  unfold Mod_laysNearest_b2
  refine J_iload_n (pc' := 3) ok (dOf dX11_laysNearest 2 rfl) rfl rfl rfl ?_
  refine J_bipush (v := 6) (pc' := 5) ok (dOf dX11_laysNearest 3 rfl) rfl (by decide) ?_
  refine J_icmp_ge (tgt := 160) (pc' := 8) ok (dOf dX11_laysNearest 4 rfl) rfl (by decide) ?_ ?_
  · exact J_fin (kx160 (s.1, s.2))
  · refine J_aload_n (pc' := 9) ok (dOf dX11_laysNearest 5 rfl) rfl rfl rfl ?_
    refine J_getR (ci := 11) (kf := 24) (C := RX11) (T := TX11) (N := 29) (pc' := 12) ok (dOf dX11_laysNearest 6 rfl) rfl (by decide) rfl (by decide) win_11 wfl_X11_54 (fun a1 => ?_)
    refine J_iload_n (pc' := 13) ok (dOf dX11_laysNearest 7 rfl) rfl rfl rfl ?_
    refine J_ldc (v := 1000000000) (pc' := 15) ok (dOf dX11_laysNearest 8 rfl) rfl wcon_X11_230 ?_
    refine J_iast (pc' := 16) ok (dOf dX11_laysNearest 9 rfl) rfl (fun h2 _ => ?_)
    refine J_iconst (v := 0) (pc' := 17) ok (dOf dX11_laysNearest 10 rfl) rfl (by decide) ?_
    refine J_istore_n (ls' := [some (.ref v0), some (.int s.1), some (.int 0)]) (pc' := 18) ok (dOf dX11_laysNearest 11 rfl) rfl rfl (Nat.le_of_ble_eq_true rfl) rfl rfl ?_
    refine J_iter (lf := fun z18 => [some (.ref v0), some (.int s.1), some (.int z18.1)]) (sf := fun _ => []) (hf := fun z18 => z18.2) (px := (fun (q18 : Int32 × AHeap) => 65)) (lx := (fun (q18 : Int32 × AHeap) => [some (.ref v0), some (.int s.1), some (.int q18.1)])) (sx := (fun (q18 : Int32 × AHeap) => [])) (hx := (fun (q18 : Int32 × AHeap) => q18.2)) (fun Y2 z18 m1 m2 => Mod_laysNearest_b18_J ok v0 s.1 m1 m2 z18) (fun q18 => ?_) Lmax _
    exact Mod_laysNearest_j65_J ok v0 s.1 q18.1 q18.2 k1 kx160
def Mod_laysNearest_j160 (v0 : Nat) (v1 : Int32) (h : AHeap) : Option (Unit × AHeap) :=
  some ((), h)
theorem Mod_laysNearest_j160_J {E : JE} {l : Launch} {G : GX} {h' : AHeap} (ok : JOK E l G kMod_laysNearest 0 0 none h') (v0 : Nat) (v1 : Int32) (h : AHeap) : J E kMod_laysNearest (Mod_laysNearest_j160 v0 v1 h) (fun z => z = ((), h')) 160 [some (.ref v0), some (.int v1), none] [] h 0 0 := by
  unfold Mod_laysNearest_j160
  exact J_vreturn ok (dOf dX11_laysNearest 96 rfl) rfl (Eq.refl 0) (Nat.le_refl 0)
def Mod_laysNearest (v0 : Nat) (h : AHeap) : Option (Unit × AHeap) :=
  (iter (Mod_laysNearest_b2 v0) Lmax (0, h)).bind (fun (q2 : Int32 × AHeap) => Mod_laysNearest_j160 v0 q2.1 q2.2)
theorem t_Mod_laysNearest {l : Launch} {G : GX} {v0 : Nat} {h : AHeap} {h1 : AHeap} (hf : Mod_laysNearest v0 h = some ((), h1)) : CT l G kMod_laysNearest 0 0 [.ref v0] h none h1 := by
  refine CT_of (ls := [some (.ref v0), none, none]) (Z := fun z => z = ((), h1)) (by decide +kernel) (Nat.le_of_ble_eq_true rfl) hf rfl ⟨rfl, trivial⟩ (fun E ok => ?_)
  unfold Mod_laysNearest
  refine J_iconst (v := 0) (pc' := 1) ok (dOf dX11_laysNearest 0 rfl) rfl (by decide) ?_
  refine J_istore_n (ls' := [some (.ref v0), some (.int 0), none]) (pc' := 2) ok (dOf dX11_laysNearest 1 rfl) rfl rfl (Nat.le_of_ble_eq_true rfl) rfl rfl ?_
  refine J_iter (lf := fun z2 => [some (.ref v0), some (.int z2.1), none]) (sf := fun _ => []) (hf := fun z2 => z2.2) (px := (fun (q2 : Int32 × AHeap) => 160)) (lx := (fun (q2 : Int32 × AHeap) => [some (.ref v0), some (.int q2.1), none])) (sx := (fun (q2 : Int32 × AHeap) => [])) (hx := (fun (q2 : Int32 × AHeap) => q2.2)) (fun Y2 z2 m1 m2 => Mod_laysNearest_b2_J ok v0 m1 m2 z2) (fun q2 => ?_) Lmax _
  exact Mod_laysNearest_j160_J ok v0 q2.1 q2.2
-- X11_askedMore
abbrev kMod_askedMore : Cd := (yX11_askedMore, cX11_askedMore, 6, (some .int), 3, 67)
theorem dX11_askedMore : dcheck cX11_askedMore [(0, .aload_n 0, 1), (1, .iload_n 2, 1), (2, .iload_n 3, 1), (3, .invokevirtual 227, 3), (6, .ineg, 1), (7, .istore 4, 2), (9, .iconst 0, 1), (10, .istore 5, 2), (12, .iload 5, 2), (14, .bipush 6, 2), (16, .if_icmp .ge 39, 3), (19, .iload 4, 2), (21, .aload_n 0, 1), (22, .getfield 57, 3), (25, .iload 5, 2), (27, .iaload, 1), (28, .iload_n 3, 1), (29, .iconst (-1), 1), (30, .ixor, 1), (31, .iand, 1), (32, .ifCond .ne 13, 3), (35, .aload_n 0, 1), (36, .iload_n 1, 1), (37, .iload 5, 2), (39, .invokevirtual 212, 3), (42, .goto 4, 3), (45, .iconst 0, 1), (46, .iadd, 1), (47, .istore 4, 2), (49, .iinc 5 1, 3), (52, .goto (-40), 3), (55, .iload 4, 2), (57, .ireturn, 1)] = true := by decide +kernel
theorem cw_Mod_askedMore {k : Cd} (h1 : kMod_askedMore.2.2.2.2.1 + 1 ≤ k.2.2.2.2.1) (h2 : 8 + (kMod_askedMore.2.2.1 + 11) + kMod_askedMore.2.2.2.2.2 ≤ k.2.2.2.2.2) : Cw k kMod_askedMore 3 := ⟨wcode_X11_askedMore, wini_SplitProgramModel, ⟨by decide, by decide, by decide +kernel⟩, h1, h2⟩
def Mod_askedMore_j46 (v0 : Nat) (v1 : Int32) (v2 : Int32) (v3 : Int32) (v4 : Int32) (v5 : Int32) (t0 : Int32) (t1 : Int32) (h : AHeap) : Option ((Int32 × Int32 × AHeap) ⊕ ((Int32 × Int32 × AHeap))) :=
  some (Sum.inl (t0 + t1, v5 + 1, h))
theorem Mod_askedMore_j46_J {E : JE} {l : Launch} {G : GX} {r : Option Value} {h' : AHeap} (ok : JOK E l G kMod_askedMore 0 0 r h') (v0 : Nat) (v1 : Int32) (v2 : Int32) (v3 : Int32) (v4 : Int32) (v5 : Int32) (t0 : Int32) (t1 : Int32) (h : AHeap) {Y : (Int32 × Int32 × AHeap) ⊕ ((Int32 × Int32 × AHeap)) → Prop} (k1 : ∀ s' : Int32 × Int32 × AHeap, Y (.inl s') → JW E kMod_askedMore 12 [some (.ref v0), some (.int v1), some (.int v2), some (.int v3), some (.int s'.1), some (.int s'.2.1)] [] s'.2.2 0 0) (kx55 : ∀ q : Int32 × Int32 × AHeap, Y (.inr q) → JW E kMod_askedMore 55 [some (.ref v0), some (.int v1), some (.int v2), some (.int v3), some (.int q.1), some (.int q.2.1)] [] q.2.2 0 0) : J E kMod_askedMore (Mod_askedMore_j46 v0 v1 v2 v3 v4 v5 t0 t1 h) Y 46 [some (.ref v0), some (.int v1), some (.int v2), some (.int v3), some (.int v4), some (.int v5)] [.int t1, .int t0] h 0 0 := by
  unfold Mod_askedMore_j46
  refine J_iadd (pc' := 47) ok (dOf dX11_askedMore 27 rfl) rfl ?_
  refine J_istore (ls' := [some (.ref v0), some (.int v1), some (.int v2), some (.int v3), some (.int (t0 + t1)), some (.int v5)]) (pc' := 49) ok (dOf dX11_askedMore 28 rfl) rfl (Nat.le_of_ble_eq_true rfl) rfl rfl ?_
  refine J_iinc (v := v5 + 1) (ls' := [some (.ref v0), some (.int v1), some (.int v2), some (.int v3), some (.int (t0 + t1)), some (.int (v5 + 1))]) (pc' := 52) ok (dOf dX11_askedMore 29 rfl) rfl rfl (by rfl) (Nat.le_of_ble_eq_true rfl) rfl rfl ?_
  refine J_goto (tgt := 12) ok (dOf dX11_askedMore 30 rfl) (by decide) ?_
  exact J_fin (k1 (t0 + t1, v5 + 1, h))
def Mod_askedMore_b12 (v0 : Nat) (v1 : Int32) (v2 : Int32) (v3 : Int32) (s : Int32 × Int32 × AHeap) : Option ((Int32 × Int32 × AHeap) ⊕ ((Int32 × Int32 × AHeap))) :=
  (if 6 ≤ s.2.1 then some (Sum.inr (s.1, s.2.1, s.2.2)) else (gfR s.2.2 v0 11 25).bind fun a3 => (ald 0 s.2.2 a3 s.2.1).bind fun x4 => (if ¬ (x4 &&& (v3 ^^^ (-1))) = 0 then Mod_askedMore_j46 v0 v1 v2 v3 s.1 s.2.1 s.1 0 s.2.2 else (chk s.2.2 v0 11).bind fun _ => bnd2 (Mod_needOf v0 v1 s.2.1 s.2.2) fun x6 h5 => Mod_askedMore_j46 v0 v1 v2 v3 s.1 s.2.1 s.1 x6 h5))
theorem Mod_askedMore_b12_J {E : JE} {l : Launch} {G : GX} {r : Option Value} {h' : AHeap} (ok : JOK E l G kMod_askedMore 0 0 r h') (v0 : Nat) (v1 : Int32) (v2 : Int32) (v3 : Int32) {Y : (Int32 × Int32 × AHeap) ⊕ ((Int32 × Int32 × AHeap)) → Prop} (k1 : ∀ s' : Int32 × Int32 × AHeap, Y (.inl s') → JW E kMod_askedMore 12 [some (.ref v0), some (.int v1), some (.int v2), some (.int v3), some (.int s'.1), some (.int s'.2.1)] [] s'.2.2 0 0) (kx55 : ∀ q : Int32 × Int32 × AHeap, Y (.inr q) → JW E kMod_askedMore 55 [some (.ref v0), some (.int v1), some (.int v2), some (.int v3), some (.int q.1), some (.int q.2.1)] [] q.2.2 0 0) (s : Int32 × Int32 × AHeap) : J E kMod_askedMore (Mod_askedMore_b12 v0 v1 v2 v3 s) Y 12 [some (.ref v0), some (.int v1), some (.int v2), some (.int v3), some (.int s.1), some (.int s.2.1)] [] s.2.2 0 0 := by
  unfold Mod_askedMore_b12
  refine J_iload (pc' := 14) ok (dOf dX11_askedMore 8 rfl) rfl rfl ?_
  refine J_bipush (v := 6) (pc' := 16) ok (dOf dX11_askedMore 9 rfl) rfl (by decide) ?_
  refine J_icmp_ge (tgt := 55) (pc' := 19) ok (dOf dX11_askedMore 10 rfl) rfl (by decide) ?_ ?_
  · exact J_fin (kx55 (s.1, s.2.1, s.2.2))
  · refine J_iload (pc' := 21) ok (dOf dX11_askedMore 11 rfl) rfl rfl ?_
    refine J_aload_n (pc' := 22) ok (dOf dX11_askedMore 12 rfl) rfl rfl rfl ?_
    refine J_getR (ci := 11) (kf := 25) (C := RX11) (T := TX11) (N := 29) (pc' := 25) ok (dOf dX11_askedMore 13 rfl) rfl (by decide) rfl (by decide) win_11 wfl_X11_57 (fun a3 => ?_)
    refine J_iload (pc' := 27) ok (dOf dX11_askedMore 14 rfl) rfl rfl ?_
    refine J_iald (pc' := 28) ok (dOf dX11_askedMore 15 rfl) rfl (fun x4 => ?_)
    refine J_iload_n (pc' := 29) ok (dOf dX11_askedMore 16 rfl) rfl rfl rfl ?_
    refine J_iconst (v := (-1)) (pc' := 30) ok (dOf dX11_askedMore 17 rfl) rfl (by decide) ?_
    refine J_ixor (pc' := 31) ok (dOf dX11_askedMore 18 rfl) rfl ?_
    refine J_iand (pc' := 32) ok (dOf dX11_askedMore 19 rfl) rfl ?_
    refine J_if_ne (tgt := 45) (pc' := 35) ok (dOf dX11_askedMore 20 rfl) rfl (by decide) ?_ ?_
    · refine J_iconst (v := 0) (pc' := 46) ok (dOf dX11_askedMore 26 rfl) rfl (by decide) ?_
      exact Mod_askedMore_j46_J ok v0 v1 v2 v3 s.1 s.2.1 s.1 0 s.2.2 k1 kx55
    · refine J_aload_n (pc' := 36) ok (dOf dX11_askedMore 21 rfl) rfl rfl rfl ?_
      refine J_iload_n (pc' := 37) ok (dOf dX11_askedMore 22 rfl) rfl rfl rfl ?_
      refine J_iload (pc' := 39) ok (dOf dX11_askedMore 23 rfl) rfl rfl ?_
      refine J_callVi (k2 := kMod_needOf) (ci := 11) (T := TX11) (N := 29) (as := [.int v1, .int s.2.1]) (pc' := 42) ok (dOf dX11_askedMore 24 rfl) rfl (cw_Mod_needOf (by decide) (by decide)) wml_X11_212 winst_X11_needOf wsel_X11_needOf rfl ⟨Nat.le_refl 0, Nat.le_refl 0⟩ (Nat.le_of_ble_eq_true rfl) rfl (fun _ _ hf => t_Mod_needOf hf) (fun x6 h5 => ?_)
      refine J_goto (tgt := 46) ok (dOf dX11_askedMore 25 rfl) (by decide) ?_
      exact Mod_askedMore_j46_J ok v0 v1 v2 v3 s.1 s.2.1 s.1 x6 h5 k1 kx55
def Mod_askedMore_j55 (v0 : Nat) (v1 : Int32) (v2 : Int32) (v3 : Int32) (v4 : Int32) (v5 : Int32) (h : AHeap) : Option (Int32 × AHeap) :=
  some (v4, h)
theorem Mod_askedMore_j55_J {E : JE} {l : Launch} {G : GX} {v : Int32} {h' : AHeap} (ok : JOK E l G kMod_askedMore 0 0 (some (.int v)) h') (v0 : Nat) (v1 : Int32) (v2 : Int32) (v3 : Int32) (v4 : Int32) (v5 : Int32) (h : AHeap) : J E kMod_askedMore (Mod_askedMore_j55 v0 v1 v2 v3 v4 v5 h) (fun z => z = (v, h')) 55 [some (.ref v0), some (.int v1), some (.int v2), some (.int v3), some (.int v4), some (.int v5)] [] h 0 0 := by
  unfold Mod_askedMore_j55
  refine J_iload (pc' := 57) ok (dOf dX11_askedMore 31 rfl) rfl rfl ?_
  exact J_ireturn ok (dOf dX11_askedMore 32 rfl) rfl (Eq.refl 0) (Nat.le_refl 0)
def Mod_askedMore (v0 : Nat) (v1 : Int32) (v2 : Int32) (v3 : Int32) (h : AHeap) : Option (Int32 × AHeap) :=
  (chk h v0 11).bind fun _ => bnd2 (Mod_stocksOf v0 v2 v3 h) fun x2 h1 => (iter (Mod_askedMore_b12 v0 v1 v2 v3) Lmax (-x2, 0, h1)).bind (fun (q12 : Int32 × Int32 × AHeap) => Mod_askedMore_j55 v0 v1 v2 v3 q12.1 q12.2.1 q12.2.2)
theorem t_Mod_askedMore {l : Launch} {G : GX} {v0 : Nat} {v1 : Int32} {v2 : Int32} {v3 : Int32} {h : AHeap} {v : Int32} {h1 : AHeap} (hf : Mod_askedMore v0 v1 v2 v3 h = some (v, h1)) : CT l G kMod_askedMore 0 0 [.ref v0, .int v1, .int v2, .int v3] h (some (.int v)) h1 := by
  refine CT_of (ls := [some (.ref v0), some (.int v1), some (.int v2), some (.int v3), none, none]) (Z := fun z => z = (v, h1)) (by decide +kernel) (Nat.le_of_ble_eq_true rfl) hf rfl ⟨rfl, rfl, rfl, rfl, trivial⟩ (fun E ok => ?_)
  unfold Mod_askedMore
  refine J_aload_n (pc' := 1) ok (dOf dX11_askedMore 0 rfl) rfl rfl rfl ?_
  refine J_iload_n (pc' := 2) ok (dOf dX11_askedMore 1 rfl) rfl rfl rfl ?_
  refine J_iload_n (pc' := 3) ok (dOf dX11_askedMore 2 rfl) rfl rfl rfl ?_
  refine J_callVi (k2 := kMod_stocksOf) (ci := 11) (T := TX11) (N := 29) (as := [.int v2, .int v3]) (pc' := 6) ok (dOf dX11_askedMore 3 rfl) rfl (cw_Mod_stocksOf (by decide) (by decide)) wml_X11_227 winst_X11_stocksOf wsel_X11_stocksOf rfl ⟨Nat.le_refl 0, Nat.le_refl 0⟩ (Nat.le_of_ble_eq_true rfl) rfl (fun _ _ hf => t_Mod_stocksOf hf) (fun x2 h1 => ?_)
  refine J_ineg (pc' := 7) ok (dOf dX11_askedMore 4 rfl) rfl ?_
  refine J_istore (ls' := [some (.ref v0), some (.int v1), some (.int v2), some (.int v3), some (.int (-x2)), none]) (pc' := 9) ok (dOf dX11_askedMore 5 rfl) rfl (Nat.le_of_ble_eq_true rfl) rfl rfl ?_
  refine J_iconst (v := 0) (pc' := 10) ok (dOf dX11_askedMore 6 rfl) rfl (by decide) ?_
  refine J_istore (ls' := [some (.ref v0), some (.int v1), some (.int v2), some (.int v3), some (.int (-x2)), some (.int 0)]) (pc' := 12) ok (dOf dX11_askedMore 7 rfl) rfl (Nat.le_of_ble_eq_true rfl) rfl rfl ?_
  refine J_iter (lf := fun z12 => [some (.ref v0), some (.int v1), some (.int v2), some (.int v3), some (.int z12.1), some (.int z12.2.1)]) (sf := fun _ => []) (hf := fun z12 => z12.2.2) (px := (fun (q12 : Int32 × Int32 × AHeap) => 55)) (lx := (fun (q12 : Int32 × Int32 × AHeap) => [some (.ref v0), some (.int v1), some (.int v2), some (.int v3), some (.int q12.1), some (.int q12.2.1)])) (sx := (fun (q12 : Int32 × Int32 × AHeap) => [])) (hx := (fun (q12 : Int32 × Int32 × AHeap) => q12.2.2)) (fun Y2 z12 m1 m2 => Mod_askedMore_b12_J ok v0 v1 v2 v3 m1 m2 z12) (fun q12 => ?_) Lmax _
  exact Mod_askedMore_j55_J ok v0 v1 v2 v3 q12.1 q12.2.1 q12.2.2
-- X11_scarce
abbrev kMod_scarce : Cd := (yX11_scarce, cX11_scarce, 7, (some .int), 4, 92)
theorem dX11_scarce : dcheck cX11_scarce [(0, .iconst 0, 1), (1, .istore_n 3, 1), (2, .iconst 0, 1), (3, .istore 4, 2), (5, .iconst 1, 1), (6, .istore 5, 2), (8, .iload 5, 2), (10, .iconst 1, 1), (11, .aload_n 0, 1), (12, .getfield 22, 3), (15, .iconst 0, 1), (16, .iaload, 1), (17, .ishl, 1), (18, .if_icmp .ge 48, 3), (21, .aload_n 0, 1), (22, .iload_n 1, 1), (23, .iload_n 2, 1), (24, .iload 5, 2), (26, .invokevirtual 234, 3), (29, .istore 6, 2), (31, .iload 6, 2), (33, .iload_n 3, 1), (34, .if_icmp .le 13, 3), (37, .iload 6, 2), (39, .istore_n 3, 1), (40, .iload 5, 2), (42, .istore 4, 2), (44, .goto 16, 3), (47, .iload 6, 2), (49, .iload_n 3, 1), (50, .if_icmp .ne 10, 3), (53, .iload 4, 2), (55, .iload 5, 2), (57, .iand, 1), (58, .istore 4, 2), (60, .iinc 5 1, 3), (63, .goto (-55), 3), (66, .iload 4, 2), (68, .ireturn, 1)] = true := by decide +kernel
theorem cw_Mod_scarce {k : Cd} (h1 : kMod_scarce.2.2.2.2.1 + 1 ≤ k.2.2.2.2.1) (h2 : 8 + (kMod_scarce.2.2.1 + 11) + kMod_scarce.2.2.2.2.2 ≤ k.2.2.2.2.2) : Cw k kMod_scarce 2 := ⟨wcode_X11_scarce, wini_SplitProgramModel, ⟨by decide, by decide, by decide +kernel⟩, h1, h2⟩
def Mod_scarce_j60 (v0 : Nat) (v1 : Int32) (v2 : Int32) (v3 : Int32) (v4 : Int32) (v5 : Int32) (v6 : Int32) (h : AHeap) : Option ((Int32 × Int32 × Int32 × AHeap) ⊕ ((Int32 × Int32 × Int32 × AHeap))) :=
  some (Sum.inl (v3, v4, v5 + 1, h))
theorem Mod_scarce_j60_J {E : JE} {l : Launch} {G : GX} {r : Option Value} {h' : AHeap} (ok : JOK E l G kMod_scarce 0 0 r h') (v0 : Nat) (v1 : Int32) (v2 : Int32) (v3 : Int32) (v4 : Int32) (v5 : Int32) (v6 : Int32) (h : AHeap) {Y : (Int32 × Int32 × Int32 × AHeap) ⊕ ((Int32 × Int32 × Int32 × AHeap)) → Prop} (k1 : ∀ s' : Int32 × Int32 × Int32 × AHeap, Y (.inl s') → JW E kMod_scarce 8 [some (.ref v0), some (.int v1), some (.int v2), some (.int s'.1), some (.int s'.2.1), some (.int s'.2.2.1), none] [] s'.2.2.2 0 0) (kx66 : ∀ q : Int32 × Int32 × Int32 × AHeap, Y (.inr q) → JW E kMod_scarce 66 [some (.ref v0), some (.int v1), some (.int v2), some (.int q.1), some (.int q.2.1), some (.int q.2.2.1), none] [] q.2.2.2 0 0) : J E kMod_scarce (Mod_scarce_j60 v0 v1 v2 v3 v4 v5 v6 h) Y 60 [some (.ref v0), some (.int v1), some (.int v2), some (.int v3), some (.int v4), some (.int v5), some (.int v6)] [] h 0 0 := by
  unfold Mod_scarce_j60
  refine J_iinc (v := v5 + 1) (ls' := [some (.ref v0), some (.int v1), some (.int v2), some (.int v3), some (.int v4), some (.int (v5 + 1)), some (.int v6)]) (pc' := 63) ok (dOf dX11_scarce 35 rfl) rfl rfl (by rfl) (Nat.le_of_ble_eq_true rfl) rfl rfl ?_
  refine J_goto (tgt := 8) ok (dOf dX11_scarce 36 rfl) (by decide) ?_
  refine J_weak (ls' := [some (.ref v0), some (.int v1), some (.int v2), some (.int v3), some (.int v4), some (.int (v5 + 1)), none]) ⟨rfl, rfl, rfl, rfl, rfl, rfl, trivial⟩ ?_
  exact J_fin (k1 (v3, v4, v5 + 1, h))
def Mod_scarce_b8 (v0 : Nat) (v1 : Int32) (v2 : Int32) (s : Int32 × Int32 × Int32 × AHeap) : Option ((Int32 × Int32 × Int32 × AHeap) ⊕ ((Int32 × Int32 × Int32 × AHeap))) :=
  (gfR s.2.2.2 v0 11 5).bind fun a1 => (ald 0 s.2.2.2 a1 0).bind fun x2 => (if ((1 : Int32) <<< (x2 &&& 31)) ≤ s.2.2.1 then some (Sum.inr (s.1, s.2.1, s.2.2.1, s.2.2.2)) else (chk s.2.2.2 v0 11).bind fun _ => bnd2 (Mod_askedMore v0 v1 v2 s.2.2.1 s.2.2.2) fun x4 h3 => (if x4 ≤ s.1 then (if ¬ x4 = s.1 then Mod_scarce_j60 v0 v1 v2 s.1 s.2.1 s.2.2.1 x4 h3 else Mod_scarce_j60 v0 v1 v2 s.1 (s.2.1 &&& s.2.2.1) s.2.2.1 x4 h3) else Mod_scarce_j60 v0 v1 v2 x4 s.2.2.1 s.2.2.1 x4 h3))
theorem Mod_scarce_b8_J {E : JE} {l : Launch} {G : GX} {r : Option Value} {h' : AHeap} (ok : JOK E l G kMod_scarce 0 0 r h') (v0 : Nat) (v1 : Int32) (v2 : Int32) {Y : (Int32 × Int32 × Int32 × AHeap) ⊕ ((Int32 × Int32 × Int32 × AHeap)) → Prop} (k1 : ∀ s' : Int32 × Int32 × Int32 × AHeap, Y (.inl s') → JW E kMod_scarce 8 [some (.ref v0), some (.int v1), some (.int v2), some (.int s'.1), some (.int s'.2.1), some (.int s'.2.2.1), none] [] s'.2.2.2 0 0) (kx66 : ∀ q : Int32 × Int32 × Int32 × AHeap, Y (.inr q) → JW E kMod_scarce 66 [some (.ref v0), some (.int v1), some (.int v2), some (.int q.1), some (.int q.2.1), some (.int q.2.2.1), none] [] q.2.2.2 0 0) (s : Int32 × Int32 × Int32 × AHeap) : J E kMod_scarce (Mod_scarce_b8 v0 v1 v2 s) Y 8 [some (.ref v0), some (.int v1), some (.int v2), some (.int s.1), some (.int s.2.1), some (.int s.2.2.1), none] [] s.2.2.2 0 0 := by
  unfold Mod_scarce_b8
  refine J_iload (pc' := 10) ok (dOf dX11_scarce 6 rfl) rfl rfl ?_
  refine J_iconst (v := 1) (pc' := 11) ok (dOf dX11_scarce 7 rfl) rfl (by decide) ?_
  refine J_aload_n (pc' := 12) ok (dOf dX11_scarce 8 rfl) rfl rfl rfl ?_
  refine J_getR (ci := 11) (kf := 5) (C := RX11) (T := TX11) (N := 29) (pc' := 15) ok (dOf dX11_scarce 9 rfl) rfl (by decide) rfl (by decide) win_11 wfl_X11_22 (fun a1 => ?_)
  refine J_iconst (v := 0) (pc' := 16) ok (dOf dX11_scarce 10 rfl) rfl (by decide) ?_
  refine J_iald (pc' := 17) ok (dOf dX11_scarce 11 rfl) rfl (fun x2 => ?_)
  refine J_ishl (pc' := 18) ok (dOf dX11_scarce 12 rfl) rfl ?_
  refine J_icmp_ge (tgt := 66) (pc' := 21) ok (dOf dX11_scarce 13 rfl) rfl (by decide) ?_ ?_
  · exact J_fin (kx66 (s.1, s.2.1, s.2.2.1, s.2.2.2))
  · refine J_aload_n (pc' := 22) ok (dOf dX11_scarce 14 rfl) rfl rfl rfl ?_
    refine J_iload_n (pc' := 23) ok (dOf dX11_scarce 15 rfl) rfl rfl rfl ?_
    refine J_iload_n (pc' := 24) ok (dOf dX11_scarce 16 rfl) rfl rfl rfl ?_
    refine J_iload (pc' := 26) ok (dOf dX11_scarce 17 rfl) rfl rfl ?_
    refine J_callVi (k2 := kMod_askedMore) (ci := 11) (T := TX11) (N := 29) (as := [.int v1, .int v2, .int s.2.2.1]) (pc' := 29) ok (dOf dX11_scarce 18 rfl) rfl (cw_Mod_askedMore (by decide) (by decide)) wml_X11_234 winst_X11_askedMore wsel_X11_askedMore rfl ⟨Nat.le_refl 0, Nat.le_refl 0⟩ (Nat.le_of_ble_eq_true rfl) rfl (fun _ _ hf => t_Mod_askedMore hf) (fun x4 h3 => ?_)
    refine J_istore (ls' := [some (.ref v0), some (.int v1), some (.int v2), some (.int s.1), some (.int s.2.1), some (.int s.2.2.1), some (.int x4)]) (pc' := 31) ok (dOf dX11_scarce 19 rfl) rfl (Nat.le_of_ble_eq_true rfl) rfl rfl ?_
    refine J_iload (pc' := 33) ok (dOf dX11_scarce 20 rfl) rfl rfl ?_
    refine J_iload_n (pc' := 34) ok (dOf dX11_scarce 21 rfl) rfl rfl rfl ?_
    refine J_icmp_le (tgt := 47) (pc' := 37) ok (dOf dX11_scarce 22 rfl) rfl (by decide) ?_ ?_
    · refine J_iload (pc' := 49) ok (dOf dX11_scarce 28 rfl) rfl rfl ?_
      refine J_iload_n (pc' := 50) ok (dOf dX11_scarce 29 rfl) rfl rfl rfl ?_
      refine J_icmp_ne (tgt := 60) (pc' := 53) ok (dOf dX11_scarce 30 rfl) rfl (by decide) ?_ ?_
      · exact Mod_scarce_j60_J ok v0 v1 v2 s.1 s.2.1 s.2.2.1 x4 h3 k1 kx66
      · refine J_iload (pc' := 55) ok (dOf dX11_scarce 31 rfl) rfl rfl ?_
        refine J_iload (pc' := 57) ok (dOf dX11_scarce 32 rfl) rfl rfl ?_
        refine J_iand (pc' := 58) ok (dOf dX11_scarce 33 rfl) rfl ?_
        refine J_istore (ls' := [some (.ref v0), some (.int v1), some (.int v2), some (.int s.1), some (.int (s.2.1 &&& s.2.2.1)), some (.int s.2.2.1), some (.int x4)]) (pc' := 60) ok (dOf dX11_scarce 34 rfl) rfl (Nat.le_of_ble_eq_true rfl) rfl rfl ?_
        exact Mod_scarce_j60_J ok v0 v1 v2 s.1 (s.2.1 &&& s.2.2.1) s.2.2.1 x4 h3 k1 kx66
    · refine J_iload (pc' := 39) ok (dOf dX11_scarce 23 rfl) rfl rfl ?_
      refine J_istore_n (ls' := [some (.ref v0), some (.int v1), some (.int v2), some (.int x4), some (.int s.2.1), some (.int s.2.2.1), some (.int x4)]) (pc' := 40) ok (dOf dX11_scarce 24 rfl) rfl rfl (Nat.le_of_ble_eq_true rfl) rfl rfl ?_
      refine J_iload (pc' := 42) ok (dOf dX11_scarce 25 rfl) rfl rfl ?_
      refine J_istore (ls' := [some (.ref v0), some (.int v1), some (.int v2), some (.int x4), some (.int s.2.2.1), some (.int s.2.2.1), some (.int x4)]) (pc' := 44) ok (dOf dX11_scarce 26 rfl) rfl (Nat.le_of_ble_eq_true rfl) rfl rfl ?_
      refine J_goto (tgt := 60) ok (dOf dX11_scarce 27 rfl) (by decide) ?_
      exact Mod_scarce_j60_J ok v0 v1 v2 x4 s.2.2.1 s.2.2.1 x4 h3 k1 kx66
def Mod_scarce_j66 (v0 : Nat) (v1 : Int32) (v2 : Int32) (v3 : Int32) (v4 : Int32) (v5 : Int32) (h : AHeap) : Option (Int32 × AHeap) :=
  some (v4, h)
theorem Mod_scarce_j66_J {E : JE} {l : Launch} {G : GX} {v : Int32} {h' : AHeap} (ok : JOK E l G kMod_scarce 0 0 (some (.int v)) h') (v0 : Nat) (v1 : Int32) (v2 : Int32) (v3 : Int32) (v4 : Int32) (v5 : Int32) (h : AHeap) : J E kMod_scarce (Mod_scarce_j66 v0 v1 v2 v3 v4 v5 h) (fun z => z = (v, h')) 66 [some (.ref v0), some (.int v1), some (.int v2), some (.int v3), some (.int v4), some (.int v5), none] [] h 0 0 := by
  unfold Mod_scarce_j66
  refine J_iload (pc' := 68) ok (dOf dX11_scarce 37 rfl) rfl rfl ?_
  exact J_ireturn ok (dOf dX11_scarce 38 rfl) rfl (Eq.refl 0) (Nat.le_refl 0)
def Mod_scarce (v0 : Nat) (v1 : Int32) (v2 : Int32) (h : AHeap) : Option (Int32 × AHeap) :=
  (iter (Mod_scarce_b8 v0 v1 v2) Lmax (0, 0, 1, h)).bind (fun (q8 : Int32 × Int32 × Int32 × AHeap) => Mod_scarce_j66 v0 v1 v2 q8.1 q8.2.1 q8.2.2.1 q8.2.2.2)
theorem t_Mod_scarce {l : Launch} {G : GX} {v0 : Nat} {v1 : Int32} {v2 : Int32} {h : AHeap} {v : Int32} {h1 : AHeap} (hf : Mod_scarce v0 v1 v2 h = some (v, h1)) : CT l G kMod_scarce 0 0 [.ref v0, .int v1, .int v2] h (some (.int v)) h1 := by
  refine CT_of (ls := [some (.ref v0), some (.int v1), some (.int v2), none, none, none, none]) (Z := fun z => z = (v, h1)) (by decide +kernel) (Nat.le_of_ble_eq_true rfl) hf rfl ⟨rfl, rfl, rfl, trivial⟩ (fun E ok => ?_)
  unfold Mod_scarce
  refine J_iconst (v := 0) (pc' := 1) ok (dOf dX11_scarce 0 rfl) rfl (by decide) ?_
  refine J_istore_n (ls' := [some (.ref v0), some (.int v1), some (.int v2), some (.int 0), none, none, none]) (pc' := 2) ok (dOf dX11_scarce 1 rfl) rfl rfl (Nat.le_of_ble_eq_true rfl) rfl rfl ?_
  refine J_iconst (v := 0) (pc' := 3) ok (dOf dX11_scarce 2 rfl) rfl (by decide) ?_
  refine J_istore (ls' := [some (.ref v0), some (.int v1), some (.int v2), some (.int 0), some (.int 0), none, none]) (pc' := 5) ok (dOf dX11_scarce 3 rfl) rfl (Nat.le_of_ble_eq_true rfl) rfl rfl ?_
  refine J_iconst (v := 1) (pc' := 6) ok (dOf dX11_scarce 4 rfl) rfl (by decide) ?_
  refine J_istore (ls' := [some (.ref v0), some (.int v1), some (.int v2), some (.int 0), some (.int 0), some (.int 1), none]) (pc' := 8) ok (dOf dX11_scarce 5 rfl) rfl (Nat.le_of_ble_eq_true rfl) rfl rfl ?_
  refine J_iter (lf := fun z8 => [some (.ref v0), some (.int v1), some (.int v2), some (.int z8.1), some (.int z8.2.1), some (.int z8.2.2.1), none]) (sf := fun _ => []) (hf := fun z8 => z8.2.2.2) (px := (fun (q8 : Int32 × Int32 × Int32 × AHeap) => 66)) (lx := (fun (q8 : Int32 × Int32 × Int32 × AHeap) => [some (.ref v0), some (.int v1), some (.int v2), some (.int q8.1), some (.int q8.2.1), some (.int q8.2.2.1), none])) (sx := (fun (q8 : Int32 × Int32 × Int32 × AHeap) => [])) (hx := (fun (q8 : Int32 × Int32 × Int32 × AHeap) => q8.2.2.2)) (fun Y2 z8 m1 m2 => Mod_scarce_b8_J ok v0 v1 v2 m1 m2 z8) (fun q8 => ?_) Lmax _
  exact Mod_scarce_j66_J ok v0 v1 v2 q8.1 q8.2.1 q8.2.2.1 q8.2.2.2
-- X11_riseOf
abbrev kMod_riseOf : Cd := (yX11_riseOf, cX11_riseOf, 6, (some .int), 2, 44)
theorem dX11_riseOf : dcheck cX11_riseOf [(0, .ldc 230, 2), (2, .istore_n 3, 1), (3, .iconst 0, 1), (4, .istore 4, 2), (6, .iload 4, 2), (8, .bipush 6, 2), (10, .if_icmp .ge 111, 3), (13, .aload_n 0, 1), (14, .iload_n 1, 1), (15, .iload 4, 2), (17, .invokevirtual 212, 3), (20, .ifCond .eq 95, 3), (23, .aload_n 0, 1), (24, .getfield 57, 3), (27, .iload 4, 2), (29, .iaload, 1), (30, .iload_n 2, 1), (31, .iand, 1), (32, .ifCond .ne 6, 3), (35, .goto 80, 3), (38, .aload_n 0, 1), (39, .getfield 57, 3), (42, .iload 4, 2), (44, .iaload, 1), (45, .iload_n 2, 1), (46, .iconst (-1), 1), (47, .ixor, 1), (48, .iand, 1), (49, .ifCond .eq 5, 3), (52, .iconst 1, 1), (53, .ireturn, 1), (54, .iconst 0, 1), (55, .istore 5, 2), (57, .iload 5, 2), (59, .iconst 4, 1), (60, .if_icmp .ge 55, 3), (63, .iload_n 2, 1), (64, .iload 5, 2), (66, .ishr, 1), (67, .iconst 1, 1), (68, .iand, 1), (69, .ifCond .ne 40, 3), (72, .aload_n 0, 1), (73, .iload 4, 2), (75, .iload 5, 2), (77, .invokevirtual 231, 3), (80, .aload_n 0, 1), (81, .getfield 54, 3), (84, .iload 4, 2), (86, .iaload, 1), (87, .isub, 1), (88, .iload_n 3, 1), (89, .if_icmp .ge 20, 3), (92, .aload_n 0, 1), (93, .iload 4, 2), (95, .iload 5, 2), (97, .invokevirtual 231, 3), (100, .aload_n 0, 1), (101, .getfield 54, 3), (104, .iload 4, 2), (106, .iaload, 1), (107, .isub, 1), (108, .istore_n 3, 1), (109, .iinc 5 1, 3), (112, .goto (-55), 3), (115, .iinc 4 1, 3), (118, .goto (-112), 3), (121, .iload_n 3, 1), (122, .ireturn, 1)] = true := by decide +kernel
theorem cw_Mod_riseOf {k : Cd} (h1 : kMod_riseOf.2.2.2.2.1 + 1 ≤ k.2.2.2.2.1) (h2 : 8 + (kMod_riseOf.2.2.1 + 11) + kMod_riseOf.2.2.2.2.2 ≤ k.2.2.2.2.2) : Cw k kMod_riseOf 2 := ⟨wcode_X11_riseOf, wini_SplitProgramModel, ⟨by decide, by decide, by decide +kernel⟩, h1, h2⟩
def Mod_riseOf_j115 (v0 : Nat) (v1 : Int32) (v2 : Int32) (v3 : Int32) (v4 : Int32) (h : AHeap) : Option ((Int32 × Int32 × AHeap) ⊕ ((Int32 × Int32 × AHeap) ⊕ (Int32 × Int32 × AHeap))) :=
  some (Sum.inl (v3, v4 + 1, h))
theorem Mod_riseOf_j115_J {E : JE} {l : Launch} {G : GX} {r : Option Value} {h' : AHeap} (ok : JOK E l G kMod_riseOf 0 0 r h') (v0 : Nat) (v1 : Int32) (v2 : Int32) (v3 : Int32) (v4 : Int32) (h : AHeap) {Y : (Int32 × Int32 × AHeap) ⊕ ((Int32 × Int32 × AHeap) ⊕ (Int32 × Int32 × AHeap)) → Prop} (k1 : ∀ s' : Int32 × Int32 × AHeap, Y (.inl s') → JW E kMod_riseOf 6 [some (.ref v0), some (.int v1), some (.int v2), some (.int s'.1), some (.int s'.2.1), none] [] s'.2.2 0 0) (kx52 : ∀ q : Int32 × Int32 × AHeap, Y (.inr (Sum.inl q)) → JW E kMod_riseOf 52 [some (.ref v0), some (.int v1), some (.int v2), some (.int q.1), some (.int q.2.1), none] [] q.2.2 0 0) (kx121 : ∀ q : Int32 × Int32 × AHeap, Y (.inr (Sum.inr q)) → JW E kMod_riseOf 121 [some (.ref v0), some (.int v1), some (.int v2), some (.int q.1), some (.int q.2.1), none] [] q.2.2 0 0) : J E kMod_riseOf (Mod_riseOf_j115 v0 v1 v2 v3 v4 h) Y 115 [some (.ref v0), some (.int v1), some (.int v2), some (.int v3), some (.int v4), none] [] h 0 0 := by
  unfold Mod_riseOf_j115
  refine J_iinc (v := v4 + 1) (ls' := [some (.ref v0), some (.int v1), some (.int v2), some (.int v3), some (.int (v4 + 1)), none]) (pc' := 118) ok (dOf dX11_riseOf 65 rfl) rfl rfl (by rfl) (Nat.le_of_ble_eq_true rfl) rfl rfl ?_
  refine J_goto (tgt := 6) ok (dOf dX11_riseOf 66 rfl) (by decide) ?_
  exact J_fin (k1 (v3, v4 + 1, h))
def Mod_riseOf_j109 (v0 : Nat) (v1 : Int32) (v2 : Int32) (v3 : Int32) (v4 : Int32) (v5 : Int32) (h : AHeap) : Option ((Int32 × Int32 × AHeap) ⊕ ((Int32 × AHeap))) :=
  some (Sum.inl (v3, v5 + 1, h))
theorem Mod_riseOf_j109_J {E : JE} {l : Launch} {G : GX} {r : Option Value} {h' : AHeap} (ok : JOK E l G kMod_riseOf 0 0 r h') (v0 : Nat) (v1 : Int32) (v2 : Int32) (v3 : Int32) (v4 : Int32) (v5 : Int32) (h : AHeap) {Y : (Int32 × Int32 × AHeap) ⊕ ((Int32 × AHeap)) → Prop} (k1 : ∀ s' : Int32 × Int32 × AHeap, Y (.inl s') → JW E kMod_riseOf 57 [some (.ref v0), some (.int v1), some (.int v2), some (.int s'.1), some (.int v4), some (.int s'.2.1)] [] s'.2.2 0 0) (kx115 : ∀ q : Int32 × AHeap, Y (.inr q) → JW E kMod_riseOf 115 [some (.ref v0), some (.int v1), some (.int v2), some (.int q.1), some (.int v4), none] [] q.2 0 0) : J E kMod_riseOf (Mod_riseOf_j109 v0 v1 v2 v3 v4 v5 h) Y 109 [some (.ref v0), some (.int v1), some (.int v2), some (.int v3), some (.int v4), some (.int v5)] [] h 0 0 := by
  unfold Mod_riseOf_j109
  refine J_iinc (v := v5 + 1) (ls' := [some (.ref v0), some (.int v1), some (.int v2), some (.int v3), some (.int v4), some (.int (v5 + 1))]) (pc' := 112) ok (dOf dX11_riseOf 63 rfl) rfl rfl (by rfl) (Nat.le_of_ble_eq_true rfl) rfl rfl ?_
  refine J_goto (tgt := 57) ok (dOf dX11_riseOf 64 rfl) (by decide) ?_
  exact J_fin (k1 (v3, v5 + 1, h))
def Mod_riseOf_b57 (v0 : Nat) (v1 : Int32) (v2 : Int32) (v4 : Int32) (s : Int32 × Int32 × AHeap) : Option ((Int32 × Int32 × AHeap) ⊕ ((Int32 × AHeap))) :=
  (if 4 ≤ s.2.1 then some (Sum.inr (s.1, s.2.2)) else (if ¬ ((v2 >>> (s.2.1 &&& 31)) &&& 1) = 0 then Mod_riseOf_j109 v0 v1 v2 s.1 v4 s.2.1 s.2.2 else (chk s.2.2 v0 11).bind fun _ => bnd2 (Mod_reachOf v0 v4 s.2.1 s.2.2) fun x8 h7 => (gfR h7 v0 11 24).bind fun a9 => (ald 0 h7 a9 v4).bind fun x10 => (if s.1 ≤ (x8 - x10) then Mod_riseOf_j109 v0 v1 v2 s.1 v4 s.2.1 h7 else (chk h7 v0 11).bind fun _ => bnd2 (Mod_reachOf v0 v4 s.2.1 h7) fun x12 h11 => (gfR h11 v0 11 24).bind fun a13 => (ald 0 h11 a13 v4).bind fun x14 => Mod_riseOf_j109 v0 v1 v2 (x12 - x14) v4 s.2.1 h11)))
theorem Mod_riseOf_b57_J {E : JE} {l : Launch} {G : GX} {r : Option Value} {h' : AHeap} (ok : JOK E l G kMod_riseOf 0 0 r h') (v0 : Nat) (v1 : Int32) (v2 : Int32) (v4 : Int32) {Y : (Int32 × Int32 × AHeap) ⊕ ((Int32 × AHeap)) → Prop} (k1 : ∀ s' : Int32 × Int32 × AHeap, Y (.inl s') → JW E kMod_riseOf 57 [some (.ref v0), some (.int v1), some (.int v2), some (.int s'.1), some (.int v4), some (.int s'.2.1)] [] s'.2.2 0 0) (kx115 : ∀ q : Int32 × AHeap, Y (.inr q) → JW E kMod_riseOf 115 [some (.ref v0), some (.int v1), some (.int v2), some (.int q.1), some (.int v4), none] [] q.2 0 0) (s : Int32 × Int32 × AHeap) : J E kMod_riseOf (Mod_riseOf_b57 v0 v1 v2 v4 s) Y 57 [some (.ref v0), some (.int v1), some (.int v2), some (.int s.1), some (.int v4), some (.int s.2.1)] [] s.2.2 0 0 := by
  unfold Mod_riseOf_b57
  refine J_iload (pc' := 59) ok (dOf dX11_riseOf 33 rfl) rfl rfl ?_
  refine J_iconst (v := 4) (pc' := 60) ok (dOf dX11_riseOf 34 rfl) rfl (by decide) ?_
  refine J_icmp_ge (tgt := 115) (pc' := 63) ok (dOf dX11_riseOf 35 rfl) rfl (by decide) ?_ ?_
  · refine J_weak (ls' := [some (.ref v0), some (.int v1), some (.int v2), some (.int s.1), some (.int v4), none]) ⟨rfl, rfl, rfl, rfl, rfl, trivial⟩ ?_
    exact J_fin (kx115 (s.1, s.2.2))
  · refine J_iload_n (pc' := 64) ok (dOf dX11_riseOf 36 rfl) rfl rfl rfl ?_
    refine J_iload (pc' := 66) ok (dOf dX11_riseOf 37 rfl) rfl rfl ?_
    refine J_ishr (pc' := 67) ok (dOf dX11_riseOf 38 rfl) rfl ?_
    refine J_iconst (v := 1) (pc' := 68) ok (dOf dX11_riseOf 39 rfl) rfl (by decide) ?_
    refine J_iand (pc' := 69) ok (dOf dX11_riseOf 40 rfl) rfl ?_
    refine J_if_ne (tgt := 109) (pc' := 72) ok (dOf dX11_riseOf 41 rfl) rfl (by decide) ?_ ?_
    · exact Mod_riseOf_j109_J ok v0 v1 v2 s.1 v4 s.2.1 s.2.2 k1 kx115
    · refine J_aload_n (pc' := 73) ok (dOf dX11_riseOf 42 rfl) rfl rfl rfl ?_
      refine J_iload (pc' := 75) ok (dOf dX11_riseOf 43 rfl) rfl rfl ?_
      refine J_iload (pc' := 77) ok (dOf dX11_riseOf 44 rfl) rfl rfl ?_
      refine J_callVi (k2 := kMod_reachOf) (ci := 11) (T := TX11) (N := 29) (as := [.int v4, .int s.2.1]) (pc' := 80) ok (dOf dX11_riseOf 45 rfl) rfl (cw_Mod_reachOf (by decide) (by decide)) wml_X11_231 winst_X11_reachOf wsel_X11_reachOf rfl ⟨Nat.le_refl 0, Nat.le_refl 0⟩ (Nat.le_of_ble_eq_true rfl) rfl (fun _ _ hf => t_Mod_reachOf hf) (fun x8 h7 => ?_)
      refine J_aload_n (pc' := 81) ok (dOf dX11_riseOf 46 rfl) rfl rfl rfl ?_
      refine J_getR (ci := 11) (kf := 24) (C := RX11) (T := TX11) (N := 29) (pc' := 84) ok (dOf dX11_riseOf 47 rfl) rfl (by decide) rfl (by decide) win_11 wfl_X11_54 (fun a9 => ?_)
      refine J_iload (pc' := 86) ok (dOf dX11_riseOf 48 rfl) rfl rfl ?_
      refine J_iald (pc' := 87) ok (dOf dX11_riseOf 49 rfl) rfl (fun x10 => ?_)
      refine J_isub (pc' := 88) ok (dOf dX11_riseOf 50 rfl) rfl ?_
      refine J_iload_n (pc' := 89) ok (dOf dX11_riseOf 51 rfl) rfl rfl rfl ?_
      refine J_icmp_ge (tgt := 109) (pc' := 92) ok (dOf dX11_riseOf 52 rfl) rfl (by decide) ?_ ?_
      · exact Mod_riseOf_j109_J ok v0 v1 v2 s.1 v4 s.2.1 h7 k1 kx115
      · refine J_aload_n (pc' := 93) ok (dOf dX11_riseOf 53 rfl) rfl rfl rfl ?_
        refine J_iload (pc' := 95) ok (dOf dX11_riseOf 54 rfl) rfl rfl ?_
        refine J_iload (pc' := 97) ok (dOf dX11_riseOf 55 rfl) rfl rfl ?_
        refine J_callVi (k2 := kMod_reachOf) (ci := 11) (T := TX11) (N := 29) (as := [.int v4, .int s.2.1]) (pc' := 100) ok (dOf dX11_riseOf 56 rfl) rfl (cw_Mod_reachOf (by decide) (by decide)) wml_X11_231 winst_X11_reachOf wsel_X11_reachOf rfl ⟨Nat.le_refl 0, Nat.le_refl 0⟩ (Nat.le_of_ble_eq_true rfl) rfl (fun _ _ hf => t_Mod_reachOf hf) (fun x12 h11 => ?_)
        refine J_aload_n (pc' := 101) ok (dOf dX11_riseOf 57 rfl) rfl rfl rfl ?_
        refine J_getR (ci := 11) (kf := 24) (C := RX11) (T := TX11) (N := 29) (pc' := 104) ok (dOf dX11_riseOf 58 rfl) rfl (by decide) rfl (by decide) win_11 wfl_X11_54 (fun a13 => ?_)
        refine J_iload (pc' := 106) ok (dOf dX11_riseOf 59 rfl) rfl rfl ?_
        refine J_iald (pc' := 107) ok (dOf dX11_riseOf 60 rfl) rfl (fun x14 => ?_)
        refine J_isub (pc' := 108) ok (dOf dX11_riseOf 61 rfl) rfl ?_
        refine J_istore_n (ls' := [some (.ref v0), some (.int v1), some (.int v2), some (.int (x12 - x14)), some (.int v4), some (.int s.2.1)]) (pc' := 109) ok (dOf dX11_riseOf 62 rfl) rfl rfl (Nat.le_of_ble_eq_true rfl) rfl rfl ?_
        exact Mod_riseOf_j109_J ok v0 v1 v2 (x12 - x14) v4 s.2.1 h11 k1 kx115
def Mod_riseOf_b6 (v0 : Nat) (v1 : Int32) (v2 : Int32) (s : Int32 × Int32 × AHeap) : Option ((Int32 × Int32 × AHeap) ⊕ ((Int32 × Int32 × AHeap) ⊕ (Int32 × Int32 × AHeap))) :=
  (if 6 ≤ s.2.1 then some (Sum.inr (Sum.inr (s.1, s.2.1, s.2.2))) else (chk s.2.2 v0 11).bind fun _ => bnd2 (Mod_needOf v0 v1 s.2.1 s.2.2) fun x2 h1 => (if x2 = 0 then Mod_riseOf_j115 v0 v1 v2 s.1 s.2.1 h1 else (gfR h1 v0 11 25).bind fun a3 => (ald 0 h1 a3 s.2.1).bind fun x4 => (if ¬ (x4 &&& v2) = 0 then (gfR h1 v0 11 25).bind fun a5 => (ald 0 h1 a5 s.2.1).bind fun x6 => (if (x6 &&& (v2 ^^^ (-1))) = 0 then (iter (Mod_riseOf_b57 v0 v1 v2 s.2.1) Lmax (s.1, 0, h1)).bind (fun (q57 : Int32 × AHeap) => Mod_riseOf_j115 v0 v1 v2 q57.1 s.2.1 q57.2) else some (Sum.inr (Sum.inl (s.1, s.2.1, h1)))) else Mod_riseOf_j115 v0 v1 v2 s.1 s.2.1 h1)))
theorem Mod_riseOf_b6_J {E : JE} {l : Launch} {G : GX} {r : Option Value} {h' : AHeap} (ok : JOK E l G kMod_riseOf 0 0 r h') (v0 : Nat) (v1 : Int32) (v2 : Int32) {Y : (Int32 × Int32 × AHeap) ⊕ ((Int32 × Int32 × AHeap) ⊕ (Int32 × Int32 × AHeap)) → Prop} (k1 : ∀ s' : Int32 × Int32 × AHeap, Y (.inl s') → JW E kMod_riseOf 6 [some (.ref v0), some (.int v1), some (.int v2), some (.int s'.1), some (.int s'.2.1), none] [] s'.2.2 0 0) (kx52 : ∀ q : Int32 × Int32 × AHeap, Y (.inr (Sum.inl q)) → JW E kMod_riseOf 52 [some (.ref v0), some (.int v1), some (.int v2), some (.int q.1), some (.int q.2.1), none] [] q.2.2 0 0) (kx121 : ∀ q : Int32 × Int32 × AHeap, Y (.inr (Sum.inr q)) → JW E kMod_riseOf 121 [some (.ref v0), some (.int v1), some (.int v2), some (.int q.1), some (.int q.2.1), none] [] q.2.2 0 0) (s : Int32 × Int32 × AHeap) : J E kMod_riseOf (Mod_riseOf_b6 v0 v1 v2 s) Y 6 [some (.ref v0), some (.int v1), some (.int v2), some (.int s.1), some (.int s.2.1), none] [] s.2.2 0 0 := by
  unfold Mod_riseOf_b6
  refine J_iload (pc' := 8) ok (dOf dX11_riseOf 4 rfl) rfl rfl ?_
  refine J_bipush (v := 6) (pc' := 10) ok (dOf dX11_riseOf 5 rfl) rfl (by decide) ?_
  refine J_icmp_ge (tgt := 121) (pc' := 13) ok (dOf dX11_riseOf 6 rfl) rfl (by decide) ?_ ?_
  · exact J_fin (kx121 (s.1, s.2.1, s.2.2))
  · refine J_aload_n (pc' := 14) ok (dOf dX11_riseOf 7 rfl) rfl rfl rfl ?_
    refine J_iload_n (pc' := 15) ok (dOf dX11_riseOf 8 rfl) rfl rfl rfl ?_
    refine J_iload (pc' := 17) ok (dOf dX11_riseOf 9 rfl) rfl rfl ?_
    refine J_callVi (k2 := kMod_needOf) (ci := 11) (T := TX11) (N := 29) (as := [.int v1, .int s.2.1]) (pc' := 20) ok (dOf dX11_riseOf 10 rfl) rfl (cw_Mod_needOf (by decide) (by decide)) wml_X11_212 winst_X11_needOf wsel_X11_needOf rfl ⟨Nat.le_refl 0, Nat.le_refl 0⟩ (Nat.le_of_ble_eq_true rfl) rfl (fun _ _ hf => t_Mod_needOf hf) (fun x2 h1 => ?_)
    refine J_if_eq (tgt := 115) (pc' := 23) ok (dOf dX11_riseOf 11 rfl) rfl (by decide) ?_ ?_
    · exact Mod_riseOf_j115_J ok v0 v1 v2 s.1 s.2.1 h1 k1 kx52 kx121
    · refine J_aload_n (pc' := 24) ok (dOf dX11_riseOf 12 rfl) rfl rfl rfl ?_
      refine J_getR (ci := 11) (kf := 25) (C := RX11) (T := TX11) (N := 29) (pc' := 27) ok (dOf dX11_riseOf 13 rfl) rfl (by decide) rfl (by decide) win_11 wfl_X11_57 (fun a3 => ?_)
      refine J_iload (pc' := 29) ok (dOf dX11_riseOf 14 rfl) rfl rfl ?_
      refine J_iald (pc' := 30) ok (dOf dX11_riseOf 15 rfl) rfl (fun x4 => ?_)
      refine J_iload_n (pc' := 31) ok (dOf dX11_riseOf 16 rfl) rfl rfl rfl ?_
      refine J_iand (pc' := 32) ok (dOf dX11_riseOf 17 rfl) rfl ?_
      refine J_if_ne (tgt := 38) (pc' := 35) ok (dOf dX11_riseOf 18 rfl) rfl (by decide) ?_ ?_
      · refine J_aload_n (pc' := 39) ok (dOf dX11_riseOf 20 rfl) rfl rfl rfl ?_
        refine J_getR (ci := 11) (kf := 25) (C := RX11) (T := TX11) (N := 29) (pc' := 42) ok (dOf dX11_riseOf 21 rfl) rfl (by decide) rfl (by decide) win_11 wfl_X11_57 (fun a5 => ?_)
        refine J_iload (pc' := 44) ok (dOf dX11_riseOf 22 rfl) rfl rfl ?_
        refine J_iald (pc' := 45) ok (dOf dX11_riseOf 23 rfl) rfl (fun x6 => ?_)
        refine J_iload_n (pc' := 46) ok (dOf dX11_riseOf 24 rfl) rfl rfl rfl ?_
        refine J_iconst (v := (-1)) (pc' := 47) ok (dOf dX11_riseOf 25 rfl) rfl (by decide) ?_
        refine J_ixor (pc' := 48) ok (dOf dX11_riseOf 26 rfl) rfl ?_
        refine J_iand (pc' := 49) ok (dOf dX11_riseOf 27 rfl) rfl ?_
        refine J_if_eq (tgt := 54) (pc' := 52) ok (dOf dX11_riseOf 28 rfl) rfl (by decide) ?_ ?_
        · refine J_iconst (v := 0) (pc' := 55) ok (dOf dX11_riseOf 31 rfl) rfl (by decide) ?_
          refine J_istore (ls' := [some (.ref v0), some (.int v1), some (.int v2), some (.int s.1), some (.int s.2.1), some (.int 0)]) (pc' := 57) ok (dOf dX11_riseOf 32 rfl) rfl (Nat.le_of_ble_eq_true rfl) rfl rfl ?_
          refine J_iter (lf := fun z57 => [some (.ref v0), some (.int v1), some (.int v2), some (.int z57.1), some (.int s.2.1), some (.int z57.2.1)]) (sf := fun _ => []) (hf := fun z57 => z57.2.2) (px := (fun (q57 : Int32 × AHeap) => 115)) (lx := (fun (q57 : Int32 × AHeap) => [some (.ref v0), some (.int v1), some (.int v2), some (.int q57.1), some (.int s.2.1), none])) (sx := (fun (q57 : Int32 × AHeap) => [])) (hx := (fun (q57 : Int32 × AHeap) => q57.2)) (fun Y2 z57 m1 m2 => Mod_riseOf_b57_J ok v0 v1 v2 s.2.1 m1 m2 z57) (fun q57 => ?_) Lmax _
          exact Mod_riseOf_j115_J ok v0 v1 v2 q57.1 s.2.1 q57.2 k1 kx52 kx121
        · exact J_fin (kx52 (s.1, s.2.1, h1))
      · refine J_goto (tgt := 115) ok (dOf dX11_riseOf 19 rfl) (by decide) ?_
        exact Mod_riseOf_j115_J ok v0 v1 v2 s.1 s.2.1 h1 k1 kx52 kx121
def Mod_riseOf_j52 (v0 : Nat) (v1 : Int32) (v2 : Int32) (v3 : Int32) (v4 : Int32) (h : AHeap) : Option (Int32 × AHeap) :=
  some (1, h)
theorem Mod_riseOf_j52_J {E : JE} {l : Launch} {G : GX} {v : Int32} {h' : AHeap} (ok : JOK E l G kMod_riseOf 0 0 (some (.int v)) h') (v0 : Nat) (v1 : Int32) (v2 : Int32) (v3 : Int32) (v4 : Int32) (h : AHeap) : J E kMod_riseOf (Mod_riseOf_j52 v0 v1 v2 v3 v4 h) (fun z => z = (v, h')) 52 [some (.ref v0), some (.int v1), some (.int v2), some (.int v3), some (.int v4), none] [] h 0 0 := by
  unfold Mod_riseOf_j52
  refine J_iconst (v := 1) (pc' := 53) ok (dOf dX11_riseOf 29 rfl) rfl (by decide) ?_
  exact J_ireturn ok (dOf dX11_riseOf 30 rfl) rfl (Eq.refl 0) (Nat.le_refl 0)
def Mod_riseOf_j121 (v0 : Nat) (v1 : Int32) (v2 : Int32) (v3 : Int32) (v4 : Int32) (h : AHeap) : Option (Int32 × AHeap) :=
  some (v3, h)
theorem Mod_riseOf_j121_J {E : JE} {l : Launch} {G : GX} {v : Int32} {h' : AHeap} (ok : JOK E l G kMod_riseOf 0 0 (some (.int v)) h') (v0 : Nat) (v1 : Int32) (v2 : Int32) (v3 : Int32) (v4 : Int32) (h : AHeap) : J E kMod_riseOf (Mod_riseOf_j121 v0 v1 v2 v3 v4 h) (fun z => z = (v, h')) 121 [some (.ref v0), some (.int v1), some (.int v2), some (.int v3), some (.int v4), none] [] h 0 0 := by
  unfold Mod_riseOf_j121
  refine J_iload_n (pc' := 122) ok (dOf dX11_riseOf 67 rfl) rfl rfl rfl ?_
  exact J_ireturn ok (dOf dX11_riseOf 68 rfl) rfl (Eq.refl 0) (Nat.le_refl 0)
def Mod_riseOf (v0 : Nat) (v1 : Int32) (v2 : Int32) (h : AHeap) : Option (Int32 × AHeap) :=
  (iter (Mod_riseOf_b6 v0 v1 v2) Lmax (1000000000, 0, h)).bind (Sum.elim (fun (q6 : Int32 × Int32 × AHeap) => Mod_riseOf_j52 v0 v1 v2 q6.1 q6.2.1 q6.2.2) (fun (q6 : Int32 × Int32 × AHeap) => Mod_riseOf_j121 v0 v1 v2 q6.1 q6.2.1 q6.2.2))
theorem t_Mod_riseOf {l : Launch} {G : GX} {v0 : Nat} {v1 : Int32} {v2 : Int32} {h : AHeap} {v : Int32} {h1 : AHeap} (hf : Mod_riseOf v0 v1 v2 h = some (v, h1)) : CT l G kMod_riseOf 0 0 [.ref v0, .int v1, .int v2] h (some (.int v)) h1 := by
  refine CT_of (ls := [some (.ref v0), some (.int v1), some (.int v2), none, none, none]) (Z := fun z => z = (v, h1)) (by decide +kernel) (Nat.le_of_ble_eq_true rfl) hf rfl ⟨rfl, rfl, rfl, trivial⟩ (fun E ok => ?_)
  unfold Mod_riseOf
  refine J_ldc (v := 1000000000) (pc' := 2) ok (dOf dX11_riseOf 0 rfl) rfl wcon_X11_230 ?_
  refine J_istore_n (ls' := [some (.ref v0), some (.int v1), some (.int v2), some (.int 1000000000), none, none]) (pc' := 3) ok (dOf dX11_riseOf 1 rfl) rfl rfl (Nat.le_of_ble_eq_true rfl) rfl rfl ?_
  refine J_iconst (v := 0) (pc' := 4) ok (dOf dX11_riseOf 2 rfl) rfl (by decide) ?_
  refine J_istore (ls' := [some (.ref v0), some (.int v1), some (.int v2), some (.int 1000000000), some (.int 0), none]) (pc' := 6) ok (dOf dX11_riseOf 3 rfl) rfl (Nat.le_of_ble_eq_true rfl) rfl rfl ?_
  refine J_iter (lf := fun z6 => [some (.ref v0), some (.int v1), some (.int v2), some (.int z6.1), some (.int z6.2.1), none]) (sf := fun _ => []) (hf := fun z6 => z6.2.2) (px := (Sum.elim (fun (q6 : Int32 × Int32 × AHeap) => 52) (fun (q6 : Int32 × Int32 × AHeap) => 121))) (lx := (Sum.elim (fun (q6 : Int32 × Int32 × AHeap) => [some (.ref v0), some (.int v1), some (.int v2), some (.int q6.1), some (.int q6.2.1), none]) (fun (q6 : Int32 × Int32 × AHeap) => [some (.ref v0), some (.int v1), some (.int v2), some (.int q6.1), some (.int q6.2.1), none]))) (sx := (Sum.elim (fun (q6 : Int32 × Int32 × AHeap) => []) (fun (q6 : Int32 × Int32 × AHeap) => []))) (hx := (Sum.elim (fun (q6 : Int32 × Int32 × AHeap) => q6.2.2) (fun (q6 : Int32 × Int32 × AHeap) => q6.2.2))) (fun Y2 z6 m1 m2 => Mod_riseOf_b6_J ok v0 v1 v2 m1 (fun q hq => m2 (Sum.inl q) hq) (fun q hq => m2 (Sum.inr q) hq) z6) (fun q6 => ?_) Lmax _
  rcases q6 with q6 | q6
  · show J E kMod_riseOf (Mod_riseOf_j52 v0 v1 v2 q6.1 q6.2.1 q6.2.2) _ 52 [some (.ref v0), some (.int v1), some (.int v2), some (.int q6.1), some (.int q6.2.1), none] [] q6.2.2 0 0
    exact Mod_riseOf_j52_J ok v0 v1 v2 q6.1 q6.2.1 q6.2.2
  · show J E kMod_riseOf (Mod_riseOf_j121 v0 v1 v2 q6.1 q6.2.1 q6.2.2) _ 121 [some (.ref v0), some (.int v1), some (.int v2), some (.int q6.1), some (.int q6.2.1), none] [] q6.2.2 0 0
    exact Mod_riseOf_j121_J ok v0 v1 v2 q6.1 q6.2.1 q6.2.2
-- X11_costOf
abbrev kMod_costOf : Cd := (yX11_costOf, cX11_costOf, 6, (some .int), 5, 118)
theorem dX11_costOf : dcheck cX11_costOf [(0, .iconst 0, 1), (1, .istore_n 3, 1), (2, .iload_n 3, 1), (3, .iconst 4, 1), (4, .if_icmp .ge 16, 3), (7, .aload_n 0, 1), (8, .getfield 51, 3), (11, .iload_n 3, 1), (12, .iconst 0, 1), (13, .iastore, 1), (14, .iinc 3 1, 3), (17, .goto (-15), 3), (20, .aload_n 0, 1), (21, .invokevirtual 237, 3), (24, .aload_n 0, 1), (25, .iload_n 1, 1), (26, .iload_n 2, 1), (27, .invokevirtual 240, 3), (30, .istore_n 3, 1), (31, .iload_n 3, 1), (32, .ifCond .eq 66, 3), (35, .aload_n 0, 1), (36, .iload_n 1, 1), (37, .iload_n 3, 1), (38, .invokevirtual 243, 3), (41, .istore 4, 2), (43, .iconst 0, 1), (44, .istore 5, 2), (46, .iload 5, 2), (48, .iconst 4, 1), (49, .if_icmp .ge 35, 3), (52, .aload_n 0, 1), (53, .getfield 51, 3), (56, .iload 5, 2), (58, .dup2, 1), (59, .iaload, 1), (60, .iload_n 3, 1), (61, .iload 5, 2), (63, .ishr, 1), (64, .iconst 1, 1), (65, .iand, 1), (66, .iconst 1, 1), (67, .if_icmp .ne 8, 3), (70, .iload 4, 2), (72, .goto 4, 3), (75, .iconst 0, 1), (76, .iadd, 1), (77, .iastore, 1), (78, .iinc 5 1, 3), (81, .goto (-35), 3), (84, .aload_n 0, 1), (85, .invokevirtual 237, 3), (88, .aload_n 0, 1), (89, .iload_n 1, 1), (90, .iload_n 2, 1), (91, .invokevirtual 240, 3), (94, .istore_n 3, 1), (95, .goto (-64), 3), (98, .iconst 0, 1), (99, .istore 4, 2), (101, .iconst 0, 1), (102, .istore 5, 2), (104, .iload 5, 2), (106, .bipush 6, 2), (108, .if_icmp .ge 29, 3), (111, .iload 4, 2), (113, .aload_n 0, 1), (114, .iload_n 1, 1), (115, .iload 5, 2), (117, .invokevirtual 212, 3), (120, .aload_n 0, 1), (121, .getfield 54, 3), (124, .iload 5, 2), (126, .iaload, 1), (127, .imul, 1), (128, .iadd, 1), (129, .istore 4, 2), (131, .iinc 5 1, 3), (134, .goto (-30), 3), (137, .iconst 0, 1), (138, .istore 5, 2), (140, .iload 5, 2), (142, .iconst 4, 1), (143, .if_icmp .ge 29, 3), (146, .iload 4, 2), (148, .aload_n 0, 1), (149, .iload_n 2, 1), (150, .iload 5, 2), (152, .invokevirtual 209, 3), (155, .aload_n 0, 1), (156, .getfield 51, 3), (159, .iload 5, 2), (161, .iaload, 1), (162, .imul, 1), (163, .isub, 1), (164, .istore 4, 2), (166, .iinc 5 1, 3), (169, .goto (-29), 3), (172, .iload 4, 2), (174, .ireturn, 1)] = true := by decide +kernel
theorem cw_Mod_costOf {k : Cd} (h1 : kMod_costOf.2.2.2.2.1 + 1 ≤ k.2.2.2.2.1) (h2 : 8 + (kMod_costOf.2.2.1 + 11) + kMod_costOf.2.2.2.2.2 ≤ k.2.2.2.2.2) : Cw k kMod_costOf 2 := ⟨wcode_X11_costOf, wini_SplitProgramModel, ⟨by decide, by decide, by decide +kernel⟩, h1, h2⟩
def Mod_costOf_b2 (v0 : Nat) (v1 : Int32) (v2 : Int32) (s : Int32 × AHeap) : Option ((Int32 × AHeap) ⊕ ((Int32 × AHeap))) :=
  (if 4 ≤ s.1 then some (Sum.inr (s.1, s.2)) else (gfR s.2 v0 11 23).bind fun a1 => (ast 0 s.2 a1 s.1 0).bind fun h2 => some (Sum.inl (s.1 + 1, h2)))
theorem Mod_costOf_b2_J {E : JE} {l : Launch} {G : GX} {r : Option Value} {h' : AHeap} (ok : JOK E l G kMod_costOf 0 0 r h') (v0 : Nat) (v1 : Int32) (v2 : Int32) {Y : (Int32 × AHeap) ⊕ ((Int32 × AHeap)) → Prop} (k1 : ∀ s' : Int32 × AHeap, Y (.inl s') → JW E kMod_costOf 2 [some (.ref v0), some (.int v1), some (.int v2), some (.int s'.1), none, none] [] s'.2 0 0) (kx20 : ∀ q : Int32 × AHeap, Y (.inr q) → JW E kMod_costOf 20 [some (.ref v0), some (.int v1), some (.int v2), some (.int q.1), none, none] [] q.2 0 0) (s : Int32 × AHeap) : J E kMod_costOf (Mod_costOf_b2 v0 v1 v2 s) Y 2 [some (.ref v0), some (.int v1), some (.int v2), some (.int s.1), none, none] [] s.2 0 0 := by
  unfold Mod_costOf_b2
  refine J_iload_n (pc' := 3) ok (dOf dX11_costOf 2 rfl) rfl rfl rfl ?_
  refine J_iconst (v := 4) (pc' := 4) ok (dOf dX11_costOf 3 rfl) rfl (by decide) ?_
  refine J_icmp_ge (tgt := 20) (pc' := 7) ok (dOf dX11_costOf 4 rfl) rfl (by decide) ?_ ?_
  · exact J_fin (kx20 (s.1, s.2))
  · refine J_aload_n (pc' := 8) ok (dOf dX11_costOf 5 rfl) rfl rfl rfl ?_
    refine J_getR (ci := 11) (kf := 23) (C := RX11) (T := TX11) (N := 29) (pc' := 11) ok (dOf dX11_costOf 6 rfl) rfl (by decide) rfl (by decide) win_11 wfl_X11_51 (fun a1 => ?_)
    refine J_iload_n (pc' := 12) ok (dOf dX11_costOf 7 rfl) rfl rfl rfl ?_
    refine J_iconst (v := 0) (pc' := 13) ok (dOf dX11_costOf 8 rfl) rfl (by decide) ?_
    refine J_iast (pc' := 14) ok (dOf dX11_costOf 9 rfl) rfl (fun h2 _ => ?_)
    refine J_iinc (v := s.1 + 1) (ls' := [some (.ref v0), some (.int v1), some (.int v2), some (.int (s.1 + 1)), none, none]) (pc' := 17) ok (dOf dX11_costOf 10 rfl) rfl rfl (by rfl) (Nat.le_of_ble_eq_true rfl) rfl rfl ?_
    refine J_goto (tgt := 2) ok (dOf dX11_costOf 11 rfl) (by decide) ?_
    exact J_fin (k1 (s.1 + 1, h2))
def Mod_costOf_j76 (v0 : Nat) (v1 : Int32) (v2 : Int32) (v3 : Int32) (v4 : Int32) (v5 : Int32) (t0 : Nat) (t1 : Int32) (t2 : Int32) (t3 : Int32) (h : AHeap) : Option ((Int32 × AHeap) ⊕ ((Int32 × AHeap))) :=
  (ast 0 h t0 t1 (t2 + t3)).bind fun h10 => some (Sum.inl (v5 + 1, h10))
theorem Mod_costOf_j76_J {E : JE} {l : Launch} {G : GX} {r : Option Value} {h' : AHeap} (ok : JOK E l G kMod_costOf 0 0 r h') (v0 : Nat) (v1 : Int32) (v2 : Int32) (v3 : Int32) (v4 : Int32) (v5 : Int32) (t0 : Nat) (t1 : Int32) (t2 : Int32) (t3 : Int32) (h : AHeap) {Y : (Int32 × AHeap) ⊕ ((Int32 × AHeap)) → Prop} (k1 : ∀ s' : Int32 × AHeap, Y (.inl s') → JW E kMod_costOf 46 [some (.ref v0), some (.int v1), some (.int v2), some (.int v3), some (.int v4), some (.int s'.1)] [] s'.2 0 0) (kx84 : ∀ q : Int32 × AHeap, Y (.inr q) → JW E kMod_costOf 84 [some (.ref v0), some (.int v1), some (.int v2), some (.int v3), some (.int v4), some (.int q.1)] [] q.2 0 0) : J E kMod_costOf (Mod_costOf_j76 v0 v1 v2 v3 v4 v5 t0 t1 t2 t3 h) Y 76 [some (.ref v0), some (.int v1), some (.int v2), some (.int v3), some (.int v4), some (.int v5)] [.int t3, .int t2, .int t1, .ref t0] h 0 0 := by
  unfold Mod_costOf_j76
  refine J_iadd (pc' := 77) ok (dOf dX11_costOf 46 rfl) rfl ?_
  refine J_iast (pc' := 78) ok (dOf dX11_costOf 47 rfl) rfl (fun h10 _ => ?_)
  refine J_iinc (v := v5 + 1) (ls' := [some (.ref v0), some (.int v1), some (.int v2), some (.int v3), some (.int v4), some (.int (v5 + 1))]) (pc' := 81) ok (dOf dX11_costOf 48 rfl) rfl rfl (by rfl) (Nat.le_of_ble_eq_true rfl) rfl rfl ?_
  refine J_goto (tgt := 46) ok (dOf dX11_costOf 49 rfl) (by decide) ?_
  exact J_fin (k1 (v5 + 1, h10))
def Mod_costOf_b46 (v0 : Nat) (v1 : Int32) (v2 : Int32) (v3 : Int32) (v4 : Int32) (s : Int32 × AHeap) : Option ((Int32 × AHeap) ⊕ ((Int32 × AHeap))) :=
  (if 4 ≤ s.1 then some (Sum.inr (s.1, s.2)) else (gfR s.2 v0 11 23).bind fun a8 => (ald 0 s.2 a8 s.1).bind fun x9 => (if ¬ ((v3 >>> (s.1 &&& 31)) &&& 1) = 1 then Mod_costOf_j76 v0 v1 v2 v3 v4 s.1 a8 s.1 x9 0 s.2 else Mod_costOf_j76 v0 v1 v2 v3 v4 s.1 a8 s.1 x9 v4 s.2))
theorem Mod_costOf_b46_J {E : JE} {l : Launch} {G : GX} {r : Option Value} {h' : AHeap} (ok : JOK E l G kMod_costOf 0 0 r h') (v0 : Nat) (v1 : Int32) (v2 : Int32) (v3 : Int32) (v4 : Int32) {Y : (Int32 × AHeap) ⊕ ((Int32 × AHeap)) → Prop} (k1 : ∀ s' : Int32 × AHeap, Y (.inl s') → JW E kMod_costOf 46 [some (.ref v0), some (.int v1), some (.int v2), some (.int v3), some (.int v4), some (.int s'.1)] [] s'.2 0 0) (kx84 : ∀ q : Int32 × AHeap, Y (.inr q) → JW E kMod_costOf 84 [some (.ref v0), some (.int v1), some (.int v2), some (.int v3), some (.int v4), some (.int q.1)] [] q.2 0 0) (s : Int32 × AHeap) : J E kMod_costOf (Mod_costOf_b46 v0 v1 v2 v3 v4 s) Y 46 [some (.ref v0), some (.int v1), some (.int v2), some (.int v3), some (.int v4), some (.int s.1)] [] s.2 0 0 := by
  unfold Mod_costOf_b46
  refine J_iload (pc' := 48) ok (dOf dX11_costOf 28 rfl) rfl rfl ?_
  refine J_iconst (v := 4) (pc' := 49) ok (dOf dX11_costOf 29 rfl) rfl (by decide) ?_
  refine J_icmp_ge (tgt := 84) (pc' := 52) ok (dOf dX11_costOf 30 rfl) rfl (by decide) ?_ ?_
  · exact J_fin (kx84 (s.1, s.2))
  · refine J_aload_n (pc' := 53) ok (dOf dX11_costOf 31 rfl) rfl rfl rfl ?_
    refine J_getR (ci := 11) (kf := 23) (C := RX11) (T := TX11) (N := 29) (pc' := 56) ok (dOf dX11_costOf 32 rfl) rfl (by decide) rfl (by decide) win_11 wfl_X11_51 (fun a8 => ?_)
    refine J_iload (pc' := 58) ok (dOf dX11_costOf 33 rfl) rfl rfl ?_
    refine J_dup2 (pc' := 59) ok (dOf dX11_costOf 34 rfl) rfl rfl rfl ?_
    refine J_iald (pc' := 60) ok (dOf dX11_costOf 35 rfl) rfl (fun x9 => ?_)
    refine J_iload_n (pc' := 61) ok (dOf dX11_costOf 36 rfl) rfl rfl rfl ?_
    refine J_iload (pc' := 63) ok (dOf dX11_costOf 37 rfl) rfl rfl ?_
    refine J_ishr (pc' := 64) ok (dOf dX11_costOf 38 rfl) rfl ?_
    refine J_iconst (v := 1) (pc' := 65) ok (dOf dX11_costOf 39 rfl) rfl (by decide) ?_
    refine J_iand (pc' := 66) ok (dOf dX11_costOf 40 rfl) rfl ?_
    refine J_iconst (v := 1) (pc' := 67) ok (dOf dX11_costOf 41 rfl) rfl (by decide) ?_
    refine J_icmp_ne (tgt := 75) (pc' := 70) ok (dOf dX11_costOf 42 rfl) rfl (by decide) ?_ ?_
    · refine J_iconst (v := 0) (pc' := 76) ok (dOf dX11_costOf 45 rfl) rfl (by decide) ?_
      exact Mod_costOf_j76_J ok v0 v1 v2 v3 v4 s.1 a8 s.1 x9 0 s.2 k1 kx84
    · refine J_iload (pc' := 72) ok (dOf dX11_costOf 43 rfl) rfl rfl ?_
      refine J_goto (tgt := 76) ok (dOf dX11_costOf 44 rfl) (by decide) ?_
      exact Mod_costOf_j76_J ok v0 v1 v2 v3 v4 s.1 a8 s.1 x9 v4 s.2 k1 kx84
def Mod_costOf_j84 (v0 : Nat) (v1 : Int32) (v2 : Int32) (v3 : Int32) (v4 : Int32) (v5 : Int32) (h : AHeap) : Option ((Int32 × AHeap) ⊕ ((Int32 × AHeap))) :=
  (chk h v0 11).bind fun _ => bnd2 (Mod_laysNearest v0 h) fun _ h11 => (chk h11 v0 11).bind fun _ => bnd2 (Mod_scarce v0 v1 v2 h11) fun x13 h12 => some (Sum.inl (x13, h12))
theorem Mod_costOf_j84_J {E : JE} {l : Launch} {G : GX} {r : Option Value} {h' : AHeap} (ok : JOK E l G kMod_costOf 0 0 r h') (v0 : Nat) (v1 : Int32) (v2 : Int32) (v3 : Int32) (v4 : Int32) (v5 : Int32) (h : AHeap) {Y : (Int32 × AHeap) ⊕ ((Int32 × AHeap)) → Prop} (k1 : ∀ s' : Int32 × AHeap, Y (.inl s') → JW E kMod_costOf 31 [some (.ref v0), some (.int v1), some (.int v2), some (.int s'.1), none, none] [] s'.2 0 0) (kx98 : ∀ q : Int32 × AHeap, Y (.inr q) → JW E kMod_costOf 98 [some (.ref v0), some (.int v1), some (.int v2), some (.int q.1), none, none] [] q.2 0 0) : J E kMod_costOf (Mod_costOf_j84 v0 v1 v2 v3 v4 v5 h) Y 84 [some (.ref v0), some (.int v1), some (.int v2), some (.int v3), some (.int v4), some (.int v5)] [] h 0 0 := by
  unfold Mod_costOf_j84
  refine J_aload_n (pc' := 85) ok (dOf dX11_costOf 50 rfl) rfl rfl rfl ?_
  refine J_callVv (k2 := kMod_laysNearest) (ci := 11) (T := TX11) (N := 29) (as := []) (pc' := 88) ok (dOf dX11_costOf 51 rfl) rfl (cw_Mod_laysNearest (by decide) (by decide)) wml_X11_237 winst_X11_laysNearest wsel_X11_laysNearest rfl ⟨Nat.le_refl 0, Nat.le_refl 0⟩ (Nat.le_of_ble_eq_true rfl) rfl (fun _ _ hf => t_Mod_laysNearest hf) (fun _ h11 => ?_)
  refine J_aload_n (pc' := 89) ok (dOf dX11_costOf 52 rfl) rfl rfl rfl ?_
  refine J_iload_n (pc' := 90) ok (dOf dX11_costOf 53 rfl) rfl rfl rfl ?_
  refine J_iload_n (pc' := 91) ok (dOf dX11_costOf 54 rfl) rfl rfl rfl ?_
  refine J_callVi (k2 := kMod_scarce) (ci := 11) (T := TX11) (N := 29) (as := [.int v1, .int v2]) (pc' := 94) ok (dOf dX11_costOf 55 rfl) rfl (cw_Mod_scarce (by decide) (by decide)) wml_X11_240 winst_X11_scarce wsel_X11_scarce rfl ⟨Nat.le_refl 0, Nat.le_refl 0⟩ (Nat.le_of_ble_eq_true rfl) rfl (fun _ _ hf => t_Mod_scarce hf) (fun x13 h12 => ?_)
  refine J_istore_n (ls' := [some (.ref v0), some (.int v1), some (.int v2), some (.int x13), some (.int v4), some (.int v5)]) (pc' := 95) ok (dOf dX11_costOf 56 rfl) rfl rfl (Nat.le_of_ble_eq_true rfl) rfl rfl ?_
  refine J_goto (tgt := 31) ok (dOf dX11_costOf 57 rfl) (by decide) ?_
  refine J_weak (ls' := [some (.ref v0), some (.int v1), some (.int v2), some (.int x13), none, none]) ⟨rfl, rfl, rfl, rfl, trivial⟩ ?_
  exact J_fin (k1 (x13, h12))
def Mod_costOf_b31 (v0 : Nat) (v1 : Int32) (v2 : Int32) (s : Int32 × AHeap) : Option ((Int32 × AHeap) ⊕ ((Int32 × AHeap))) :=
  (if s.1 = 0 then some (Sum.inr (s.1, s.2)) else (chk s.2 v0 11).bind fun _ => bnd2 (Mod_riseOf v0 v1 s.1 s.2) fun x7 h6 => (iter (Mod_costOf_b46 v0 v1 v2 s.1 x7) Lmax (0, h6)).bind (fun (q46 : Int32 × AHeap) => Mod_costOf_j84 v0 v1 v2 s.1 x7 q46.1 q46.2))
theorem Mod_costOf_b31_J {E : JE} {l : Launch} {G : GX} {r : Option Value} {h' : AHeap} (ok : JOK E l G kMod_costOf 0 0 r h') (v0 : Nat) (v1 : Int32) (v2 : Int32) {Y : (Int32 × AHeap) ⊕ ((Int32 × AHeap)) → Prop} (k1 : ∀ s' : Int32 × AHeap, Y (.inl s') → JW E kMod_costOf 31 [some (.ref v0), some (.int v1), some (.int v2), some (.int s'.1), none, none] [] s'.2 0 0) (kx98 : ∀ q : Int32 × AHeap, Y (.inr q) → JW E kMod_costOf 98 [some (.ref v0), some (.int v1), some (.int v2), some (.int q.1), none, none] [] q.2 0 0) (s : Int32 × AHeap) : J E kMod_costOf (Mod_costOf_b31 v0 v1 v2 s) Y 31 [some (.ref v0), some (.int v1), some (.int v2), some (.int s.1), none, none] [] s.2 0 0 := by
  unfold Mod_costOf_b31
  refine J_iload_n (pc' := 32) ok (dOf dX11_costOf 19 rfl) rfl rfl rfl ?_
  refine J_if_eq (tgt := 98) (pc' := 35) ok (dOf dX11_costOf 20 rfl) rfl (by decide) ?_ ?_
  · exact J_fin (kx98 (s.1, s.2))
  · refine J_aload_n (pc' := 36) ok (dOf dX11_costOf 21 rfl) rfl rfl rfl ?_
    refine J_iload_n (pc' := 37) ok (dOf dX11_costOf 22 rfl) rfl rfl rfl ?_
    refine J_iload_n (pc' := 38) ok (dOf dX11_costOf 23 rfl) rfl rfl rfl ?_
    refine J_callVi (k2 := kMod_riseOf) (ci := 11) (T := TX11) (N := 29) (as := [.int v1, .int s.1]) (pc' := 41) ok (dOf dX11_costOf 24 rfl) rfl (cw_Mod_riseOf (by decide) (by decide)) wml_X11_243 winst_X11_riseOf wsel_X11_riseOf rfl ⟨Nat.le_refl 0, Nat.le_refl 0⟩ (Nat.le_of_ble_eq_true rfl) rfl (fun _ _ hf => t_Mod_riseOf hf) (fun x7 h6 => ?_)
    refine J_istore (ls' := [some (.ref v0), some (.int v1), some (.int v2), some (.int s.1), some (.int x7), none]) (pc' := 43) ok (dOf dX11_costOf 25 rfl) rfl (Nat.le_of_ble_eq_true rfl) rfl rfl ?_
    refine J_iconst (v := 0) (pc' := 44) ok (dOf dX11_costOf 26 rfl) rfl (by decide) ?_
    refine J_istore (ls' := [some (.ref v0), some (.int v1), some (.int v2), some (.int s.1), some (.int x7), some (.int 0)]) (pc' := 46) ok (dOf dX11_costOf 27 rfl) rfl (Nat.le_of_ble_eq_true rfl) rfl rfl ?_
    refine J_iter (lf := fun z46 => [some (.ref v0), some (.int v1), some (.int v2), some (.int s.1), some (.int x7), some (.int z46.1)]) (sf := fun _ => []) (hf := fun z46 => z46.2) (px := (fun (q46 : Int32 × AHeap) => 84)) (lx := (fun (q46 : Int32 × AHeap) => [some (.ref v0), some (.int v1), some (.int v2), some (.int s.1), some (.int x7), some (.int q46.1)])) (sx := (fun (q46 : Int32 × AHeap) => [])) (hx := (fun (q46 : Int32 × AHeap) => q46.2)) (fun Y2 z46 m1 m2 => Mod_costOf_b46_J ok v0 v1 v2 s.1 x7 m1 m2 z46) (fun q46 => ?_) Lmax _
    exact Mod_costOf_j84_J ok v0 v1 v2 s.1 x7 q46.1 q46.2 k1 kx98
def Mod_costOf_b104 (v0 : Nat) (v1 : Int32) (v2 : Int32) (v3 : Int32) (s : Int32 × Int32 × AHeap) : Option ((Int32 × Int32 × AHeap) ⊕ ((Int32 × Int32 × AHeap))) :=
  (if 6 ≤ s.2.1 then some (Sum.inr (s.1, s.2.1, s.2.2)) else (chk s.2.2 v0 11).bind fun _ => bnd2 (Mod_needOf v0 v1 s.2.1 s.2.2) fun x15 h14 => (gfR h14 v0 11 24).bind fun a16 => (ald 0 h14 a16 s.2.1).bind fun x17 => some (Sum.inl (s.1 + (x15 * x17), s.2.1 + 1, h14)))
theorem Mod_costOf_b104_J {E : JE} {l : Launch} {G : GX} {r : Option Value} {h' : AHeap} (ok : JOK E l G kMod_costOf 0 0 r h') (v0 : Nat) (v1 : Int32) (v2 : Int32) (v3 : Int32) {Y : (Int32 × Int32 × AHeap) ⊕ ((Int32 × Int32 × AHeap)) → Prop} (k1 : ∀ s' : Int32 × Int32 × AHeap, Y (.inl s') → JW E kMod_costOf 104 [some (.ref v0), some (.int v1), some (.int v2), some (.int v3), some (.int s'.1), some (.int s'.2.1)] [] s'.2.2 0 0) (kx137 : ∀ q : Int32 × Int32 × AHeap, Y (.inr q) → JW E kMod_costOf 137 [some (.ref v0), some (.int v1), some (.int v2), some (.int v3), some (.int q.1), some (.int q.2.1)] [] q.2.2 0 0) (s : Int32 × Int32 × AHeap) : J E kMod_costOf (Mod_costOf_b104 v0 v1 v2 v3 s) Y 104 [some (.ref v0), some (.int v1), some (.int v2), some (.int v3), some (.int s.1), some (.int s.2.1)] [] s.2.2 0 0 := by
  unfold Mod_costOf_b104
  refine J_iload (pc' := 106) ok (dOf dX11_costOf 62 rfl) rfl rfl ?_
  refine J_bipush (v := 6) (pc' := 108) ok (dOf dX11_costOf 63 rfl) rfl (by decide) ?_
  refine J_icmp_ge (tgt := 137) (pc' := 111) ok (dOf dX11_costOf 64 rfl) rfl (by decide) ?_ ?_
  · exact J_fin (kx137 (s.1, s.2.1, s.2.2))
  · refine J_iload (pc' := 113) ok (dOf dX11_costOf 65 rfl) rfl rfl ?_
    refine J_aload_n (pc' := 114) ok (dOf dX11_costOf 66 rfl) rfl rfl rfl ?_
    refine J_iload_n (pc' := 115) ok (dOf dX11_costOf 67 rfl) rfl rfl rfl ?_
    refine J_iload (pc' := 117) ok (dOf dX11_costOf 68 rfl) rfl rfl ?_
    refine J_callVi (k2 := kMod_needOf) (ci := 11) (T := TX11) (N := 29) (as := [.int v1, .int s.2.1]) (pc' := 120) ok (dOf dX11_costOf 69 rfl) rfl (cw_Mod_needOf (by decide) (by decide)) wml_X11_212 winst_X11_needOf wsel_X11_needOf rfl ⟨Nat.le_refl 0, Nat.le_refl 0⟩ (Nat.le_of_ble_eq_true rfl) rfl (fun _ _ hf => t_Mod_needOf hf) (fun x15 h14 => ?_)
    refine J_aload_n (pc' := 121) ok (dOf dX11_costOf 70 rfl) rfl rfl rfl ?_
    refine J_getR (ci := 11) (kf := 24) (C := RX11) (T := TX11) (N := 29) (pc' := 124) ok (dOf dX11_costOf 71 rfl) rfl (by decide) rfl (by decide) win_11 wfl_X11_54 (fun a16 => ?_)
    refine J_iload (pc' := 126) ok (dOf dX11_costOf 72 rfl) rfl rfl ?_
    refine J_iald (pc' := 127) ok (dOf dX11_costOf 73 rfl) rfl (fun x17 => ?_)
    refine J_imul (pc' := 128) ok (dOf dX11_costOf 74 rfl) rfl ?_
    refine J_iadd (pc' := 129) ok (dOf dX11_costOf 75 rfl) rfl ?_
    refine J_istore (ls' := [some (.ref v0), some (.int v1), some (.int v2), some (.int v3), some (.int (s.1 + (x15 * x17))), some (.int s.2.1)]) (pc' := 131) ok (dOf dX11_costOf 76 rfl) rfl (Nat.le_of_ble_eq_true rfl) rfl rfl ?_
    refine J_iinc (v := s.2.1 + 1) (ls' := [some (.ref v0), some (.int v1), some (.int v2), some (.int v3), some (.int (s.1 + (x15 * x17))), some (.int (s.2.1 + 1))]) (pc' := 134) ok (dOf dX11_costOf 77 rfl) rfl rfl (by rfl) (Nat.le_of_ble_eq_true rfl) rfl rfl ?_
    refine J_goto (tgt := 104) ok (dOf dX11_costOf 78 rfl) (by decide) ?_
    exact J_fin (k1 (s.1 + (x15 * x17), s.2.1 + 1, h14))
def Mod_costOf_b140 (v0 : Nat) (v1 : Int32) (v2 : Int32) (v3 : Int32) (s : Int32 × Int32 × AHeap) : Option ((Int32 × Int32 × AHeap) ⊕ ((Int32 × Int32 × AHeap))) :=
  (if 4 ≤ s.2.1 then some (Sum.inr (s.1, s.2.1, s.2.2)) else (chk s.2.2 v0 11).bind fun _ => bnd2 (Mod_stockOf v0 v2 s.2.1 s.2.2) fun x19 h18 => (gfR h18 v0 11 23).bind fun a20 => (ald 0 h18 a20 s.2.1).bind fun x21 => some (Sum.inl (s.1 - (x19 * x21), s.2.1 + 1, h18)))
theorem Mod_costOf_b140_J {E : JE} {l : Launch} {G : GX} {r : Option Value} {h' : AHeap} (ok : JOK E l G kMod_costOf 0 0 r h') (v0 : Nat) (v1 : Int32) (v2 : Int32) (v3 : Int32) {Y : (Int32 × Int32 × AHeap) ⊕ ((Int32 × Int32 × AHeap)) → Prop} (k1 : ∀ s' : Int32 × Int32 × AHeap, Y (.inl s') → JW E kMod_costOf 140 [some (.ref v0), some (.int v1), some (.int v2), some (.int v3), some (.int s'.1), some (.int s'.2.1)] [] s'.2.2 0 0) (kx172 : ∀ q : Int32 × Int32 × AHeap, Y (.inr q) → JW E kMod_costOf 172 [some (.ref v0), some (.int v1), some (.int v2), some (.int v3), some (.int q.1), some (.int q.2.1)] [] q.2.2 0 0) (s : Int32 × Int32 × AHeap) : J E kMod_costOf (Mod_costOf_b140 v0 v1 v2 v3 s) Y 140 [some (.ref v0), some (.int v1), some (.int v2), some (.int v3), some (.int s.1), some (.int s.2.1)] [] s.2.2 0 0 := by
  unfold Mod_costOf_b140
  refine J_iload (pc' := 142) ok (dOf dX11_costOf 81 rfl) rfl rfl ?_
  refine J_iconst (v := 4) (pc' := 143) ok (dOf dX11_costOf 82 rfl) rfl (by decide) ?_
  refine J_icmp_ge (tgt := 172) (pc' := 146) ok (dOf dX11_costOf 83 rfl) rfl (by decide) ?_ ?_
  · exact J_fin (kx172 (s.1, s.2.1, s.2.2))
  · refine J_iload (pc' := 148) ok (dOf dX11_costOf 84 rfl) rfl rfl ?_
    refine J_aload_n (pc' := 149) ok (dOf dX11_costOf 85 rfl) rfl rfl rfl ?_
    refine J_iload_n (pc' := 150) ok (dOf dX11_costOf 86 rfl) rfl rfl rfl ?_
    refine J_iload (pc' := 152) ok (dOf dX11_costOf 87 rfl) rfl rfl ?_
    refine J_callVi (k2 := kMod_stockOf) (ci := 11) (T := TX11) (N := 29) (as := [.int v2, .int s.2.1]) (pc' := 155) ok (dOf dX11_costOf 88 rfl) rfl (cw_Mod_stockOf (by decide) (by decide)) wml_X11_209 winst_X11_stockOf wsel_X11_stockOf rfl ⟨Nat.le_refl 0, Nat.le_refl 0⟩ (Nat.le_of_ble_eq_true rfl) rfl (fun _ _ hf => t_Mod_stockOf hf) (fun x19 h18 => ?_)
    refine J_aload_n (pc' := 156) ok (dOf dX11_costOf 89 rfl) rfl rfl rfl ?_
    refine J_getR (ci := 11) (kf := 23) (C := RX11) (T := TX11) (N := 29) (pc' := 159) ok (dOf dX11_costOf 90 rfl) rfl (by decide) rfl (by decide) win_11 wfl_X11_51 (fun a20 => ?_)
    refine J_iload (pc' := 161) ok (dOf dX11_costOf 91 rfl) rfl rfl ?_
    refine J_iald (pc' := 162) ok (dOf dX11_costOf 92 rfl) rfl (fun x21 => ?_)
    refine J_imul (pc' := 163) ok (dOf dX11_costOf 93 rfl) rfl ?_
    refine J_isub (pc' := 164) ok (dOf dX11_costOf 94 rfl) rfl ?_
    refine J_istore (ls' := [some (.ref v0), some (.int v1), some (.int v2), some (.int v3), some (.int (s.1 - (x19 * x21))), some (.int s.2.1)]) (pc' := 166) ok (dOf dX11_costOf 95 rfl) rfl (Nat.le_of_ble_eq_true rfl) rfl rfl ?_
    refine J_iinc (v := s.2.1 + 1) (ls' := [some (.ref v0), some (.int v1), some (.int v2), some (.int v3), some (.int (s.1 - (x19 * x21))), some (.int (s.2.1 + 1))]) (pc' := 169) ok (dOf dX11_costOf 96 rfl) rfl rfl (by rfl) (Nat.le_of_ble_eq_true rfl) rfl rfl ?_
    refine J_goto (tgt := 140) ok (dOf dX11_costOf 97 rfl) (by decide) ?_
    exact J_fin (k1 (s.1 - (x19 * x21), s.2.1 + 1, h18))
def Mod_costOf_j172 (v0 : Nat) (v1 : Int32) (v2 : Int32) (v3 : Int32) (v4 : Int32) (v5 : Int32) (h : AHeap) : Option (Int32 × AHeap) :=
  some (v4, h)
theorem Mod_costOf_j172_J {E : JE} {l : Launch} {G : GX} {v : Int32} {h' : AHeap} (ok : JOK E l G kMod_costOf 0 0 (some (.int v)) h') (v0 : Nat) (v1 : Int32) (v2 : Int32) (v3 : Int32) (v4 : Int32) (v5 : Int32) (h : AHeap) : J E kMod_costOf (Mod_costOf_j172 v0 v1 v2 v3 v4 v5 h) (fun z => z = (v, h')) 172 [some (.ref v0), some (.int v1), some (.int v2), some (.int v3), some (.int v4), some (.int v5)] [] h 0 0 := by
  unfold Mod_costOf_j172
  refine J_iload (pc' := 174) ok (dOf dX11_costOf 98 rfl) rfl rfl ?_
  exact J_ireturn ok (dOf dX11_costOf 99 rfl) rfl (Eq.refl 0) (Nat.le_refl 0)
def Mod_costOf_j137 (v0 : Nat) (v1 : Int32) (v2 : Int32) (v3 : Int32) (v4 : Int32) (v5 : Int32) (h : AHeap) : Option (Int32 × AHeap) :=
  (iter (Mod_costOf_b140 v0 v1 v2 v3) Lmax (v4, 0, h)).bind (fun (q140 : Int32 × Int32 × AHeap) => Mod_costOf_j172 v0 v1 v2 v3 q140.1 q140.2.1 q140.2.2)
theorem Mod_costOf_j137_J {E : JE} {l : Launch} {G : GX} {v : Int32} {h' : AHeap} (ok : JOK E l G kMod_costOf 0 0 (some (.int v)) h') (v0 : Nat) (v1 : Int32) (v2 : Int32) (v3 : Int32) (v4 : Int32) (v5 : Int32) (h : AHeap) : J E kMod_costOf (Mod_costOf_j137 v0 v1 v2 v3 v4 v5 h) (fun z => z = (v, h')) 137 [some (.ref v0), some (.int v1), some (.int v2), some (.int v3), some (.int v4), some (.int v5)] [] h 0 0 := by
  unfold Mod_costOf_j137
  refine J_iconst (v := 0) (pc' := 138) ok (dOf dX11_costOf 79 rfl) rfl (by decide) ?_
  refine J_istore (ls' := [some (.ref v0), some (.int v1), some (.int v2), some (.int v3), some (.int v4), some (.int 0)]) (pc' := 140) ok (dOf dX11_costOf 80 rfl) rfl (Nat.le_of_ble_eq_true rfl) rfl rfl ?_
  refine J_iter (lf := fun z140 => [some (.ref v0), some (.int v1), some (.int v2), some (.int v3), some (.int z140.1), some (.int z140.2.1)]) (sf := fun _ => []) (hf := fun z140 => z140.2.2) (px := (fun (q140 : Int32 × Int32 × AHeap) => 172)) (lx := (fun (q140 : Int32 × Int32 × AHeap) => [some (.ref v0), some (.int v1), some (.int v2), some (.int v3), some (.int q140.1), some (.int q140.2.1)])) (sx := (fun (q140 : Int32 × Int32 × AHeap) => [])) (hx := (fun (q140 : Int32 × Int32 × AHeap) => q140.2.2)) (fun Y2 z140 m1 m2 => Mod_costOf_b140_J ok v0 v1 v2 v3 m1 m2 z140) (fun q140 => ?_) Lmax _
  exact Mod_costOf_j172_J ok v0 v1 v2 v3 q140.1 q140.2.1 q140.2.2
def Mod_costOf_j98 (v0 : Nat) (v1 : Int32) (v2 : Int32) (v3 : Int32) (h : AHeap) : Option (Int32 × AHeap) :=
  (iter (Mod_costOf_b104 v0 v1 v2 v3) Lmax (0, 0, h)).bind (fun (q104 : Int32 × Int32 × AHeap) => Mod_costOf_j137 v0 v1 v2 v3 q104.1 q104.2.1 q104.2.2)
theorem Mod_costOf_j98_J {E : JE} {l : Launch} {G : GX} {v : Int32} {h' : AHeap} (ok : JOK E l G kMod_costOf 0 0 (some (.int v)) h') (v0 : Nat) (v1 : Int32) (v2 : Int32) (v3 : Int32) (h : AHeap) : J E kMod_costOf (Mod_costOf_j98 v0 v1 v2 v3 h) (fun z => z = (v, h')) 98 [some (.ref v0), some (.int v1), some (.int v2), some (.int v3), none, none] [] h 0 0 := by
  unfold Mod_costOf_j98
  refine J_iconst (v := 0) (pc' := 99) ok (dOf dX11_costOf 58 rfl) rfl (by decide) ?_
  refine J_istore (ls' := [some (.ref v0), some (.int v1), some (.int v2), some (.int v3), some (.int 0), none]) (pc' := 101) ok (dOf dX11_costOf 59 rfl) rfl (Nat.le_of_ble_eq_true rfl) rfl rfl ?_
  refine J_iconst (v := 0) (pc' := 102) ok (dOf dX11_costOf 60 rfl) rfl (by decide) ?_
  refine J_istore (ls' := [some (.ref v0), some (.int v1), some (.int v2), some (.int v3), some (.int 0), some (.int 0)]) (pc' := 104) ok (dOf dX11_costOf 61 rfl) rfl (Nat.le_of_ble_eq_true rfl) rfl rfl ?_
  refine J_iter (lf := fun z104 => [some (.ref v0), some (.int v1), some (.int v2), some (.int v3), some (.int z104.1), some (.int z104.2.1)]) (sf := fun _ => []) (hf := fun z104 => z104.2.2) (px := (fun (q104 : Int32 × Int32 × AHeap) => 137)) (lx := (fun (q104 : Int32 × Int32 × AHeap) => [some (.ref v0), some (.int v1), some (.int v2), some (.int v3), some (.int q104.1), some (.int q104.2.1)])) (sx := (fun (q104 : Int32 × Int32 × AHeap) => [])) (hx := (fun (q104 : Int32 × Int32 × AHeap) => q104.2.2)) (fun Y2 z104 m1 m2 => Mod_costOf_b104_J ok v0 v1 v2 v3 m1 m2 z104) (fun q104 => ?_) Lmax _
  exact Mod_costOf_j137_J ok v0 v1 v2 v3 q104.1 q104.2.1 q104.2.2
def Mod_costOf_j20 (v0 : Nat) (v1 : Int32) (v2 : Int32) (v3 : Int32) (h : AHeap) : Option (Int32 × AHeap) :=
  (chk h v0 11).bind fun _ => bnd2 (Mod_laysNearest v0 h) fun _ h3 => (chk h3 v0 11).bind fun _ => bnd2 (Mod_scarce v0 v1 v2 h3) fun x5 h4 => (iter (Mod_costOf_b31 v0 v1 v2) Lmax (x5, h4)).bind (fun (q31 : Int32 × AHeap) => Mod_costOf_j98 v0 v1 v2 q31.1 q31.2)
theorem Mod_costOf_j20_J {E : JE} {l : Launch} {G : GX} {v : Int32} {h' : AHeap} (ok : JOK E l G kMod_costOf 0 0 (some (.int v)) h') (v0 : Nat) (v1 : Int32) (v2 : Int32) (v3 : Int32) (h : AHeap) : J E kMod_costOf (Mod_costOf_j20 v0 v1 v2 v3 h) (fun z => z = (v, h')) 20 [some (.ref v0), some (.int v1), some (.int v2), some (.int v3), none, none] [] h 0 0 := by
  unfold Mod_costOf_j20
  refine J_aload_n (pc' := 21) ok (dOf dX11_costOf 12 rfl) rfl rfl rfl ?_
  refine J_callVv (k2 := kMod_laysNearest) (ci := 11) (T := TX11) (N := 29) (as := []) (pc' := 24) ok (dOf dX11_costOf 13 rfl) rfl (cw_Mod_laysNearest (by decide) (by decide)) wml_X11_237 winst_X11_laysNearest wsel_X11_laysNearest rfl ⟨Nat.le_refl 0, Nat.le_refl 0⟩ (Nat.le_of_ble_eq_true rfl) rfl (fun _ _ hf => t_Mod_laysNearest hf) (fun _ h3 => ?_)
  refine J_aload_n (pc' := 25) ok (dOf dX11_costOf 14 rfl) rfl rfl rfl ?_
  refine J_iload_n (pc' := 26) ok (dOf dX11_costOf 15 rfl) rfl rfl rfl ?_
  refine J_iload_n (pc' := 27) ok (dOf dX11_costOf 16 rfl) rfl rfl rfl ?_
  refine J_callVi (k2 := kMod_scarce) (ci := 11) (T := TX11) (N := 29) (as := [.int v1, .int v2]) (pc' := 30) ok (dOf dX11_costOf 17 rfl) rfl (cw_Mod_scarce (by decide) (by decide)) wml_X11_240 winst_X11_scarce wsel_X11_scarce rfl ⟨Nat.le_refl 0, Nat.le_refl 0⟩ (Nat.le_of_ble_eq_true rfl) rfl (fun _ _ hf => t_Mod_scarce hf) (fun x5 h4 => ?_)
  refine J_istore_n (ls' := [some (.ref v0), some (.int v1), some (.int v2), some (.int x5), none, none]) (pc' := 31) ok (dOf dX11_costOf 18 rfl) rfl rfl (Nat.le_of_ble_eq_true rfl) rfl rfl ?_
  refine J_iter (lf := fun z31 => [some (.ref v0), some (.int v1), some (.int v2), some (.int z31.1), none, none]) (sf := fun _ => []) (hf := fun z31 => z31.2) (px := (fun (q31 : Int32 × AHeap) => 98)) (lx := (fun (q31 : Int32 × AHeap) => [some (.ref v0), some (.int v1), some (.int v2), some (.int q31.1), none, none])) (sx := (fun (q31 : Int32 × AHeap) => [])) (hx := (fun (q31 : Int32 × AHeap) => q31.2)) (fun Y2 z31 m1 m2 => Mod_costOf_b31_J ok v0 v1 v2 m1 m2 z31) (fun q31 => ?_) Lmax _
  exact Mod_costOf_j98_J ok v0 v1 v2 q31.1 q31.2
def Mod_costOf (v0 : Nat) (v1 : Int32) (v2 : Int32) (h : AHeap) : Option (Int32 × AHeap) :=
  (iter (Mod_costOf_b2 v0 v1 v2) Lmax (0, h)).bind (fun (q2 : Int32 × AHeap) => Mod_costOf_j20 v0 v1 v2 q2.1 q2.2)
theorem t_Mod_costOf {l : Launch} {G : GX} {v0 : Nat} {v1 : Int32} {v2 : Int32} {h : AHeap} {v : Int32} {h1 : AHeap} (hf : Mod_costOf v0 v1 v2 h = some (v, h1)) : CT l G kMod_costOf 0 0 [.ref v0, .int v1, .int v2] h (some (.int v)) h1 := by
  refine CT_of (ls := [some (.ref v0), some (.int v1), some (.int v2), none, none, none]) (Z := fun z => z = (v, h1)) (by decide +kernel) (Nat.le_of_ble_eq_true rfl) hf rfl ⟨rfl, rfl, rfl, trivial⟩ (fun E ok => ?_)
  unfold Mod_costOf
  refine J_iconst (v := 0) (pc' := 1) ok (dOf dX11_costOf 0 rfl) rfl (by decide) ?_
  refine J_istore_n (ls' := [some (.ref v0), some (.int v1), some (.int v2), some (.int 0), none, none]) (pc' := 2) ok (dOf dX11_costOf 1 rfl) rfl rfl (Nat.le_of_ble_eq_true rfl) rfl rfl ?_
  refine J_iter (lf := fun z2 => [some (.ref v0), some (.int v1), some (.int v2), some (.int z2.1), none, none]) (sf := fun _ => []) (hf := fun z2 => z2.2) (px := (fun (q2 : Int32 × AHeap) => 20)) (lx := (fun (q2 : Int32 × AHeap) => [some (.ref v0), some (.int v1), some (.int v2), some (.int q2.1), none, none])) (sx := (fun (q2 : Int32 × AHeap) => [])) (hx := (fun (q2 : Int32 × AHeap) => q2.2)) (fun Y2 z2 m1 m2 => Mod_costOf_b2_J ok v0 v1 v2 m1 m2 z2) (fun q2 => ?_) Lmax _
  exact Mod_costOf_j20_J ok v0 v1 v2 q2.1 q2.2
-- X11_solves
abbrev kMod_solves : Cd := (yX11_solves, cX11_solves, 4, (some .int), 6, 143)
theorem dX11_solves : dcheck cX11_solves [(0, .aload_n 0, 1), (1, .iload_n 1, 1), (2, .iload_n 2, 1), (3, .invokevirtual 246, 3), (6, .ifCond .ne 10, 3), (9, .aload_n 0, 1), (10, .iload_n 1, 1), (11, .iload_n 2, 1), (12, .invokevirtual 249, 3), (15, .ireturn, 1), (16, .iconst 0, 1), (17, .istore_n 3, 1), (18, .iload_n 3, 1), (19, .bipush 6, 2), (21, .if_icmp .ge 23, 3), (24, .aload_n 0, 1), (25, .getfield 54, 3), (28, .iload_n 3, 1), (29, .aload_n 0, 1), (30, .getfield 218, 3), (33, .iload_n 3, 1), (34, .ishr, 1), (35, .iconst 1, 1), (36, .iand, 1), (37, .iastore, 1), (38, .iinc 3 1, 3), (41, .goto (-23), 3), (44, .iconst 0, 1), (45, .istore_n 3, 1), (46, .iload_n 3, 1), (47, .iconst 4, 1), (48, .if_icmp .ge 27, 3), (51, .aload_n 0, 1), (52, .getfield 51, 3), (55, .iload_n 3, 1), (56, .aload_n 0, 1), (57, .aload_n 0, 1), (58, .getfield 218, 3), (61, .invokevirtual 224, 3), (64, .iload_n 3, 1), (65, .ishr, 1), (66, .iconst 1, 1), (67, .iand, 1), (68, .iastore, 1), (69, .iinc 3 1, 3), (72, .goto (-26), 3), (75, .iconst (-1), 1), (76, .ireturn, 1)] = true := by decide +kernel
theorem cw_Mod_solves {k : Cd} (h1 : kMod_solves.2.2.2.2.1 + 1 ≤ k.2.2.2.2.1) (h2 : 8 + (kMod_solves.2.2.1 + 11) + kMod_solves.2.2.2.2.2 ≤ k.2.2.2.2.2) : Cw k kMod_solves 2 := ⟨wcode_X11_solves, wini_SplitProgramModel, ⟨by decide, by decide, by decide +kernel⟩, h1, h2⟩
def Mod_solves_b18 (v0 : Nat) (v1 : Int32) (v2 : Int32) (s : Int32 × AHeap) : Option ((Int32 × AHeap) ⊕ ((Int32 × AHeap))) :=
  (if 6 ≤ s.1 then some (Sum.inr (s.1, s.2)) else (gfR s.2 v0 11 24).bind fun a3 => (gfI s.2 v0 11 22).bind fun x4 => (ast 0 s.2 a3 s.1 ((x4 >>> (s.1 &&& 31)) &&& 1)).bind fun h5 => some (Sum.inl (s.1 + 1, h5)))
theorem Mod_solves_b18_J {E : JE} {l : Launch} {G : GX} {r : Option Value} {h' : AHeap} (ok : JOK E l G kMod_solves 0 0 r h') (v0 : Nat) (v1 : Int32) (v2 : Int32) {Y : (Int32 × AHeap) ⊕ ((Int32 × AHeap)) → Prop} (k1 : ∀ s' : Int32 × AHeap, Y (.inl s') → JW E kMod_solves 18 [some (.ref v0), some (.int v1), some (.int v2), some (.int s'.1)] [] s'.2 0 0) (kx44 : ∀ q : Int32 × AHeap, Y (.inr q) → JW E kMod_solves 44 [some (.ref v0), some (.int v1), some (.int v2), some (.int q.1)] [] q.2 0 0) (s : Int32 × AHeap) : J E kMod_solves (Mod_solves_b18 v0 v1 v2 s) Y 18 [some (.ref v0), some (.int v1), some (.int v2), some (.int s.1)] [] s.2 0 0 := by
  unfold Mod_solves_b18
  refine J_iload_n (pc' := 19) ok (dOf dX11_solves 12 rfl) rfl rfl rfl ?_
  refine J_bipush (v := 6) (pc' := 21) ok (dOf dX11_solves 13 rfl) rfl (by decide) ?_
  refine J_icmp_ge (tgt := 44) (pc' := 24) ok (dOf dX11_solves 14 rfl) rfl (by decide) ?_ ?_
  · exact J_fin (kx44 (s.1, s.2))
  · refine J_aload_n (pc' := 25) ok (dOf dX11_solves 15 rfl) rfl rfl rfl ?_
    refine J_getR (ci := 11) (kf := 24) (C := RX11) (T := TX11) (N := 29) (pc' := 28) ok (dOf dX11_solves 16 rfl) rfl (by decide) rfl (by decide) win_11 wfl_X11_54 (fun a3 => ?_)
    refine J_iload_n (pc' := 29) ok (dOf dX11_solves 17 rfl) rfl rfl rfl ?_
    refine J_aload_n (pc' := 30) ok (dOf dX11_solves 18 rfl) rfl rfl rfl ?_
    refine J_getI (ci := 11) (kf := 22) (C := RX11) (T := TX11) (N := 29) (pc' := 33) ok (dOf dX11_solves 19 rfl) rfl (by decide) rfl (by decide) win_11 wfl_X11_218 (fun x4 => ?_)
    refine J_iload_n (pc' := 34) ok (dOf dX11_solves 20 rfl) rfl rfl rfl ?_
    refine J_ishr (pc' := 35) ok (dOf dX11_solves 21 rfl) rfl ?_
    refine J_iconst (v := 1) (pc' := 36) ok (dOf dX11_solves 22 rfl) rfl (by decide) ?_
    refine J_iand (pc' := 37) ok (dOf dX11_solves 23 rfl) rfl ?_
    refine J_iast (pc' := 38) ok (dOf dX11_solves 24 rfl) rfl (fun h5 _ => ?_)
    refine J_iinc (v := s.1 + 1) (ls' := [some (.ref v0), some (.int v1), some (.int v2), some (.int (s.1 + 1))]) (pc' := 41) ok (dOf dX11_solves 25 rfl) rfl rfl (by rfl) (Nat.le_of_ble_eq_true rfl) rfl rfl ?_
    refine J_goto (tgt := 18) ok (dOf dX11_solves 26 rfl) (by decide) ?_
    exact J_fin (k1 (s.1 + 1, h5))
def Mod_solves_b46 (v0 : Nat) (v1 : Int32) (v2 : Int32) (s : Int32 × AHeap) : Option ((Int32 × AHeap) ⊕ ((Int32 × AHeap))) :=
  (if 4 ≤ s.1 then some (Sum.inr (s.1, s.2)) else (gfR s.2 v0 11 23).bind fun a6 => (gfI s.2 v0 11 22).bind fun x7 => (chk s.2 v0 11).bind fun _ => bnd2 (Mod_roadsToSet v0 x7 s.2) fun x9 h8 => (ast 0 h8 a6 s.1 ((x9 >>> (s.1 &&& 31)) &&& 1)).bind fun h10 => some (Sum.inl (s.1 + 1, h10)))
theorem Mod_solves_b46_J {E : JE} {l : Launch} {G : GX} {r : Option Value} {h' : AHeap} (ok : JOK E l G kMod_solves 0 0 r h') (v0 : Nat) (v1 : Int32) (v2 : Int32) {Y : (Int32 × AHeap) ⊕ ((Int32 × AHeap)) → Prop} (k1 : ∀ s' : Int32 × AHeap, Y (.inl s') → JW E kMod_solves 46 [some (.ref v0), some (.int v1), some (.int v2), some (.int s'.1)] [] s'.2 0 0) (kx75 : ∀ q : Int32 × AHeap, Y (.inr q) → JW E kMod_solves 75 [some (.ref v0), some (.int v1), some (.int v2), some (.int q.1)] [] q.2 0 0) (s : Int32 × AHeap) : J E kMod_solves (Mod_solves_b46 v0 v1 v2 s) Y 46 [some (.ref v0), some (.int v1), some (.int v2), some (.int s.1)] [] s.2 0 0 := by
  unfold Mod_solves_b46
  refine J_iload_n (pc' := 47) ok (dOf dX11_solves 29 rfl) rfl rfl rfl ?_
  refine J_iconst (v := 4) (pc' := 48) ok (dOf dX11_solves 30 rfl) rfl (by decide) ?_
  refine J_icmp_ge (tgt := 75) (pc' := 51) ok (dOf dX11_solves 31 rfl) rfl (by decide) ?_ ?_
  · exact J_fin (kx75 (s.1, s.2))
  · refine J_aload_n (pc' := 52) ok (dOf dX11_solves 32 rfl) rfl rfl rfl ?_
    refine J_getR (ci := 11) (kf := 23) (C := RX11) (T := TX11) (N := 29) (pc' := 55) ok (dOf dX11_solves 33 rfl) rfl (by decide) rfl (by decide) win_11 wfl_X11_51 (fun a6 => ?_)
    refine J_iload_n (pc' := 56) ok (dOf dX11_solves 34 rfl) rfl rfl rfl ?_
    refine J_aload_n (pc' := 57) ok (dOf dX11_solves 35 rfl) rfl rfl rfl ?_
    refine J_aload_n (pc' := 58) ok (dOf dX11_solves 36 rfl) rfl rfl rfl ?_
    refine J_getI (ci := 11) (kf := 22) (C := RX11) (T := TX11) (N := 29) (pc' := 61) ok (dOf dX11_solves 37 rfl) rfl (by decide) rfl (by decide) win_11 wfl_X11_218 (fun x7 => ?_)
    refine J_callVi (k2 := kMod_roadsToSet) (ci := 11) (T := TX11) (N := 29) (as := [.int x7]) (pc' := 64) ok (dOf dX11_solves 38 rfl) rfl (cw_Mod_roadsToSet (by decide) (by decide)) wml_X11_224 winst_X11_roadsToSet wsel_X11_roadsToSet rfl ⟨Nat.le_refl 0, Nat.le_refl 0⟩ (Nat.le_of_ble_eq_true rfl) rfl (fun _ _ hf => t_Mod_roadsToSet hf) (fun x9 h8 => ?_)
    refine J_iload_n (pc' := 65) ok (dOf dX11_solves 39 rfl) rfl rfl rfl ?_
    refine J_ishr (pc' := 66) ok (dOf dX11_solves 40 rfl) rfl ?_
    refine J_iconst (v := 1) (pc' := 67) ok (dOf dX11_solves 41 rfl) rfl (by decide) ?_
    refine J_iand (pc' := 68) ok (dOf dX11_solves 42 rfl) rfl ?_
    refine J_iast (pc' := 69) ok (dOf dX11_solves 43 rfl) rfl (fun h10 _ => ?_)
    refine J_iinc (v := s.1 + 1) (ls' := [some (.ref v0), some (.int v1), some (.int v2), some (.int (s.1 + 1))]) (pc' := 72) ok (dOf dX11_solves 44 rfl) rfl rfl (by rfl) (Nat.le_of_ble_eq_true rfl) rfl rfl ?_
    refine J_goto (tgt := 46) ok (dOf dX11_solves 45 rfl) (by decide) ?_
    exact J_fin (k1 (s.1 + 1, h10))
def Mod_solves_j75 (v0 : Nat) (v1 : Int32) (v2 : Int32) (v3 : Int32) (h : AHeap) : Option (Int32 × AHeap) :=
  some ((-1), h)
theorem Mod_solves_j75_J {E : JE} {l : Launch} {G : GX} {v : Int32} {h' : AHeap} (ok : JOK E l G kMod_solves 0 0 (some (.int v)) h') (v0 : Nat) (v1 : Int32) (v2 : Int32) (v3 : Int32) (h : AHeap) : J E kMod_solves (Mod_solves_j75 v0 v1 v2 v3 h) (fun z => z = (v, h')) 75 [some (.ref v0), some (.int v1), some (.int v2), some (.int v3)] [] h 0 0 := by
  unfold Mod_solves_j75
  refine J_iconst (v := (-1)) (pc' := 76) ok (dOf dX11_solves 46 rfl) rfl (by decide) ?_
  exact J_ireturn ok (dOf dX11_solves 47 rfl) rfl (Eq.refl 0) (Nat.le_refl 0)
def Mod_solves_j44 (v0 : Nat) (v1 : Int32) (v2 : Int32) (v3 : Int32) (h : AHeap) : Option (Int32 × AHeap) :=
  (iter (Mod_solves_b46 v0 v1 v2) Lmax (0, h)).bind (fun (q46 : Int32 × AHeap) => Mod_solves_j75 v0 v1 v2 q46.1 q46.2)
theorem Mod_solves_j44_J {E : JE} {l : Launch} {G : GX} {v : Int32} {h' : AHeap} (ok : JOK E l G kMod_solves 0 0 (some (.int v)) h') (v0 : Nat) (v1 : Int32) (v2 : Int32) (v3 : Int32) (h : AHeap) : J E kMod_solves (Mod_solves_j44 v0 v1 v2 v3 h) (fun z => z = (v, h')) 44 [some (.ref v0), some (.int v1), some (.int v2), some (.int v3)] [] h 0 0 := by
  unfold Mod_solves_j44
  refine J_iconst (v := 0) (pc' := 45) ok (dOf dX11_solves 27 rfl) rfl (by decide) ?_
  refine J_istore_n (ls' := [some (.ref v0), some (.int v1), some (.int v2), some (.int 0)]) (pc' := 46) ok (dOf dX11_solves 28 rfl) rfl rfl (Nat.le_of_ble_eq_true rfl) rfl rfl ?_
  refine J_iter (lf := fun z46 => [some (.ref v0), some (.int v1), some (.int v2), some (.int z46.1)]) (sf := fun _ => []) (hf := fun z46 => z46.2) (px := (fun (q46 : Int32 × AHeap) => 75)) (lx := (fun (q46 : Int32 × AHeap) => [some (.ref v0), some (.int v1), some (.int v2), some (.int q46.1)])) (sx := (fun (q46 : Int32 × AHeap) => [])) (hx := (fun (q46 : Int32 × AHeap) => q46.2)) (fun Y2 z46 m1 m2 => Mod_solves_b46_J ok v0 v1 v2 m1 m2 z46) (fun q46 => ?_) Lmax _
  exact Mod_solves_j75_J ok v0 v1 v2 q46.1 q46.2
def Mod_solves (v0 : Nat) (v1 : Int32) (v2 : Int32) (h : AHeap) : Option (Int32 × AHeap) :=
  (chk h v0 11).bind fun _ => bnd2 (Mod_lackOf v0 v1 v2 h) fun x2 h1 => (if ¬ x2 = 0 then (iter (Mod_solves_b18 v0 v1 v2) Lmax (0, h1)).bind (fun (q18 : Int32 × AHeap) => Mod_solves_j44 v0 v1 v2 q18.1 q18.2) else (chk h1 v0 11).bind fun _ => bnd2 (Mod_costOf v0 v1 v2 h1) fun x12 h11 => some (x12, h11))
theorem t_Mod_solves {l : Launch} {G : GX} {v0 : Nat} {v1 : Int32} {v2 : Int32} {h : AHeap} {v : Int32} {h1 : AHeap} (hf : Mod_solves v0 v1 v2 h = some (v, h1)) : CT l G kMod_solves 0 0 [.ref v0, .int v1, .int v2] h (some (.int v)) h1 := by
  refine CT_of (ls := [some (.ref v0), some (.int v1), some (.int v2), none]) (Z := fun z => z = (v, h1)) (by decide +kernel) (Nat.le_of_ble_eq_true rfl) hf rfl ⟨rfl, rfl, rfl, trivial⟩ (fun E ok => ?_)
  unfold Mod_solves
  refine J_aload_n (pc' := 1) ok (dOf dX11_solves 0 rfl) rfl rfl rfl ?_
  refine J_iload_n (pc' := 2) ok (dOf dX11_solves 1 rfl) rfl rfl rfl ?_
  refine J_iload_n (pc' := 3) ok (dOf dX11_solves 2 rfl) rfl rfl rfl ?_
  refine J_callVi (k2 := kMod_lackOf) (ci := 11) (T := TX11) (N := 29) (as := [.int v1, .int v2]) (pc' := 6) ok (dOf dX11_solves 3 rfl) rfl (cw_Mod_lackOf (by decide) (by decide)) wml_X11_246 winst_X11_lackOf wsel_X11_lackOf rfl ⟨Nat.le_refl 0, Nat.le_refl 0⟩ (Nat.le_of_ble_eq_true rfl) rfl (fun _ _ hf => t_Mod_lackOf hf) (fun x2 h1 => ?_)
  refine J_if_ne (tgt := 16) (pc' := 9) ok (dOf dX11_solves 4 rfl) rfl (by decide) ?_ ?_
  · refine J_iconst (v := 0) (pc' := 17) ok (dOf dX11_solves 10 rfl) rfl (by decide) ?_
    refine J_istore_n (ls' := [some (.ref v0), some (.int v1), some (.int v2), some (.int 0)]) (pc' := 18) ok (dOf dX11_solves 11 rfl) rfl rfl (Nat.le_of_ble_eq_true rfl) rfl rfl ?_
    refine J_iter (lf := fun z18 => [some (.ref v0), some (.int v1), some (.int v2), some (.int z18.1)]) (sf := fun _ => []) (hf := fun z18 => z18.2) (px := (fun (q18 : Int32 × AHeap) => 44)) (lx := (fun (q18 : Int32 × AHeap) => [some (.ref v0), some (.int v1), some (.int v2), some (.int q18.1)])) (sx := (fun (q18 : Int32 × AHeap) => [])) (hx := (fun (q18 : Int32 × AHeap) => q18.2)) (fun Y2 z18 m1 m2 => Mod_solves_b18_J ok v0 v1 v2 m1 m2 z18) (fun q18 => ?_) Lmax _
    exact Mod_solves_j44_J ok v0 v1 v2 q18.1 q18.2
  · refine J_aload_n (pc' := 10) ok (dOf dX11_solves 5 rfl) rfl rfl rfl ?_
    refine J_iload_n (pc' := 11) ok (dOf dX11_solves 6 rfl) rfl rfl rfl ?_
    refine J_iload_n (pc' := 12) ok (dOf dX11_solves 7 rfl) rfl rfl rfl ?_
    refine J_callVi (k2 := kMod_costOf) (ci := 11) (T := TX11) (N := 29) (as := [.int v1, .int v2]) (pc' := 15) ok (dOf dX11_solves 8 rfl) rfl (cw_Mod_costOf (by decide) (by decide)) wml_X11_249 winst_X11_costOf wsel_X11_costOf rfl ⟨Nat.le_refl 0, Nat.le_refl 0⟩ (Nat.le_of_ble_eq_true rfl) rfl (fun _ _ hf => t_Mod_costOf hf) (fun x12 h11 => ?_)
    exact J_ireturn ok (dOf dX11_solves 9 rfl) rfl (Eq.refl 0) (Nat.le_refl 0)
-- X11_totalOf
abbrev kMod_totalOf : Cd := (yX11_totalOf, cX11_totalOf, 5, (some .int), 7, 166)
theorem dX11_totalOf : dcheck cX11_totalOf [(0, .aload_n 0, 1), (1, .iload_n 1, 1), (2, .invokevirtual 258, 3), (5, .istore_n 2, 1), (6, .iconst 0, 1), (7, .istore_n 3, 1), (8, .iload_n 3, 1), (9, .aload_n 0, 1), (10, .getfield 22, 3), (13, .iconst 2, 1), (14, .iaload, 1), (15, .if_icmp .ge 40, 3), (18, .aload_n 0, 1), (19, .iload_n 3, 1), (20, .iload_n 1, 1), (21, .invokevirtual 264, 3), (24, .istore 4, 2), (26, .iload 4, 2), (28, .iconst (-1), 1), (29, .if_icmp .ne 5, 3), (32, .iconst (-1), 1), (33, .ireturn, 1), (34, .iload_n 2, 1), (35, .aload_n 0, 1), (36, .getfield 22, 3), (39, .bipush 47, 2), (41, .iload_n 3, 1), (42, .iadd, 1), (43, .iaload, 1), (44, .iload 4, 2), (46, .imul, 1), (47, .iadd, 1), (48, .istore_n 2, 1), (49, .iinc 3 1, 3), (52, .goto (-44), 3), (55, .iload_n 2, 1), (56, .ireturn, 1)] = true := by decide +kernel
theorem cw_Mod_totalOf {k : Cd} (h1 : kMod_totalOf.2.2.2.2.1 + 1 ≤ k.2.2.2.2.1) (h2 : 8 + (kMod_totalOf.2.2.1 + 11) + kMod_totalOf.2.2.2.2.2 ≤ k.2.2.2.2.2) : Cw k kMod_totalOf 1 := ⟨wcode_X11_totalOf, wini_SplitProgramModel, ⟨by decide, by decide, by decide +kernel⟩, h1, h2⟩
def Mod_totalOf_b8 (v0 : Nat) (v1 : Int32) (s : Int32 × Int32 × AHeap) : Option ((Int32 × Int32 × AHeap) ⊕ ((Int32 × Int32 × Int32 × AHeap) ⊕ (Int32 × Int32 × AHeap))) :=
  (gfR s.2.2 v0 11 5).bind fun a3 => (ald 0 s.2.2 a3 2).bind fun x4 => (if x4 ≤ s.2.1 then some (Sum.inr (Sum.inr (s.1, s.2.1, s.2.2))) else (chk s.2.2 v0 11).bind fun _ => bnd2 (Mod_solves v0 s.2.1 v1 s.2.2) fun x6 h5 => (if ¬ x6 = (-1) then (gfR h5 v0 11 5).bind fun a7 => (ald 0 h5 a7 (47 + s.2.1)).bind fun x8 => some (Sum.inl (s.1 + (x8 * x6), s.2.1 + 1, h5)) else some (Sum.inr (Sum.inl (s.1, s.2.1, x6, h5)))))
theorem Mod_totalOf_b8_J {E : JE} {l : Launch} {G : GX} {r : Option Value} {h' : AHeap} (ok : JOK E l G kMod_totalOf 0 0 r h') (v0 : Nat) (v1 : Int32) {Y : (Int32 × Int32 × AHeap) ⊕ ((Int32 × Int32 × Int32 × AHeap) ⊕ (Int32 × Int32 × AHeap)) → Prop} (k1 : ∀ s' : Int32 × Int32 × AHeap, Y (.inl s') → JW E kMod_totalOf 8 [some (.ref v0), some (.int v1), some (.int s'.1), some (.int s'.2.1), none] [] s'.2.2 0 0) (kx32 : ∀ q : Int32 × Int32 × Int32 × AHeap, Y (.inr (Sum.inl q)) → JW E kMod_totalOf 32 [some (.ref v0), some (.int v1), some (.int q.1), some (.int q.2.1), some (.int q.2.2.1)] [] q.2.2.2 0 0) (kx55 : ∀ q : Int32 × Int32 × AHeap, Y (.inr (Sum.inr q)) → JW E kMod_totalOf 55 [some (.ref v0), some (.int v1), some (.int q.1), some (.int q.2.1), none] [] q.2.2 0 0) (s : Int32 × Int32 × AHeap) : J E kMod_totalOf (Mod_totalOf_b8 v0 v1 s) Y 8 [some (.ref v0), some (.int v1), some (.int s.1), some (.int s.2.1), none] [] s.2.2 0 0 := by
  unfold Mod_totalOf_b8
  refine J_iload_n (pc' := 9) ok (dOf dX11_totalOf 6 rfl) rfl rfl rfl ?_
  refine J_aload_n (pc' := 10) ok (dOf dX11_totalOf 7 rfl) rfl rfl rfl ?_
  refine J_getR (ci := 11) (kf := 5) (C := RX11) (T := TX11) (N := 29) (pc' := 13) ok (dOf dX11_totalOf 8 rfl) rfl (by decide) rfl (by decide) win_11 wfl_X11_22 (fun a3 => ?_)
  refine J_iconst (v := 2) (pc' := 14) ok (dOf dX11_totalOf 9 rfl) rfl (by decide) ?_
  refine J_iald (pc' := 15) ok (dOf dX11_totalOf 10 rfl) rfl (fun x4 => ?_)
  refine J_icmp_ge (tgt := 55) (pc' := 18) ok (dOf dX11_totalOf 11 rfl) rfl (by decide) ?_ ?_
  · exact J_fin (kx55 (s.1, s.2.1, s.2.2))
  · refine J_aload_n (pc' := 19) ok (dOf dX11_totalOf 12 rfl) rfl rfl rfl ?_
    refine J_iload_n (pc' := 20) ok (dOf dX11_totalOf 13 rfl) rfl rfl rfl ?_
    refine J_iload_n (pc' := 21) ok (dOf dX11_totalOf 14 rfl) rfl rfl rfl ?_
    refine J_callVi (k2 := kMod_solves) (ci := 11) (T := TX11) (N := 29) (as := [.int s.2.1, .int v1]) (pc' := 24) ok (dOf dX11_totalOf 15 rfl) rfl (cw_Mod_solves (by decide) (by decide)) wml_X11_264 winst_X11_solves wsel_X11_solves rfl ⟨Nat.le_refl 0, Nat.le_refl 0⟩ (Nat.le_of_ble_eq_true rfl) rfl (fun _ _ hf => t_Mod_solves hf) (fun x6 h5 => ?_)
    refine J_istore (ls' := [some (.ref v0), some (.int v1), some (.int s.1), some (.int s.2.1), some (.int x6)]) (pc' := 26) ok (dOf dX11_totalOf 16 rfl) rfl (Nat.le_of_ble_eq_true rfl) rfl rfl ?_
    refine J_iload (pc' := 28) ok (dOf dX11_totalOf 17 rfl) rfl rfl ?_
    refine J_iconst (v := (-1)) (pc' := 29) ok (dOf dX11_totalOf 18 rfl) rfl (by decide) ?_
    refine J_icmp_ne (tgt := 34) (pc' := 32) ok (dOf dX11_totalOf 19 rfl) rfl (by decide) ?_ ?_
    · refine J_iload_n (pc' := 35) ok (dOf dX11_totalOf 22 rfl) rfl rfl rfl ?_
      refine J_aload_n (pc' := 36) ok (dOf dX11_totalOf 23 rfl) rfl rfl rfl ?_
      refine J_getR (ci := 11) (kf := 5) (C := RX11) (T := TX11) (N := 29) (pc' := 39) ok (dOf dX11_totalOf 24 rfl) rfl (by decide) rfl (by decide) win_11 wfl_X11_22 (fun a7 => ?_)
      refine J_bipush (v := 47) (pc' := 41) ok (dOf dX11_totalOf 25 rfl) rfl (by decide) ?_
      refine J_iload_n (pc' := 42) ok (dOf dX11_totalOf 26 rfl) rfl rfl rfl ?_
      refine J_iadd (pc' := 43) ok (dOf dX11_totalOf 27 rfl) rfl ?_
      refine J_iald (pc' := 44) ok (dOf dX11_totalOf 28 rfl) rfl (fun x8 => ?_)
      refine J_iload (pc' := 46) ok (dOf dX11_totalOf 29 rfl) rfl rfl ?_
      refine J_imul (pc' := 47) ok (dOf dX11_totalOf 30 rfl) rfl ?_
      refine J_iadd (pc' := 48) ok (dOf dX11_totalOf 31 rfl) rfl ?_
      refine J_istore_n (ls' := [some (.ref v0), some (.int v1), some (.int (s.1 + (x8 * x6))), some (.int s.2.1), some (.int x6)]) (pc' := 49) ok (dOf dX11_totalOf 32 rfl) rfl rfl (Nat.le_of_ble_eq_true rfl) rfl rfl ?_
      refine J_iinc (v := s.2.1 + 1) (ls' := [some (.ref v0), some (.int v1), some (.int (s.1 + (x8 * x6))), some (.int (s.2.1 + 1)), some (.int x6)]) (pc' := 52) ok (dOf dX11_totalOf 33 rfl) rfl rfl (by rfl) (Nat.le_of_ble_eq_true rfl) rfl rfl ?_
      refine J_goto (tgt := 8) ok (dOf dX11_totalOf 34 rfl) (by decide) ?_
      refine J_weak (ls' := [some (.ref v0), some (.int v1), some (.int (s.1 + (x8 * x6))), some (.int (s.2.1 + 1)), none]) ⟨rfl, rfl, rfl, rfl, trivial⟩ ?_
      exact J_fin (k1 (s.1 + (x8 * x6), s.2.1 + 1, h5))
    · exact J_fin (kx32 (s.1, s.2.1, x6, h5))
def Mod_totalOf_j32 (v0 : Nat) (v1 : Int32) (v2 : Int32) (v3 : Int32) (v4 : Int32) (h : AHeap) : Option (Int32 × AHeap) :=
  some ((-1), h)
theorem Mod_totalOf_j32_J {E : JE} {l : Launch} {G : GX} {v : Int32} {h' : AHeap} (ok : JOK E l G kMod_totalOf 0 0 (some (.int v)) h') (v0 : Nat) (v1 : Int32) (v2 : Int32) (v3 : Int32) (v4 : Int32) (h : AHeap) : J E kMod_totalOf (Mod_totalOf_j32 v0 v1 v2 v3 v4 h) (fun z => z = (v, h')) 32 [some (.ref v0), some (.int v1), some (.int v2), some (.int v3), some (.int v4)] [] h 0 0 := by
  unfold Mod_totalOf_j32
  refine J_iconst (v := (-1)) (pc' := 33) ok (dOf dX11_totalOf 20 rfl) rfl (by decide) ?_
  exact J_ireturn ok (dOf dX11_totalOf 21 rfl) rfl (Eq.refl 0) (Nat.le_refl 0)
def Mod_totalOf_j55 (v0 : Nat) (v1 : Int32) (v2 : Int32) (v3 : Int32) (h : AHeap) : Option (Int32 × AHeap) :=
  some (v2, h)
theorem Mod_totalOf_j55_J {E : JE} {l : Launch} {G : GX} {v : Int32} {h' : AHeap} (ok : JOK E l G kMod_totalOf 0 0 (some (.int v)) h') (v0 : Nat) (v1 : Int32) (v2 : Int32) (v3 : Int32) (h : AHeap) : J E kMod_totalOf (Mod_totalOf_j55 v0 v1 v2 v3 h) (fun z => z = (v, h')) 55 [some (.ref v0), some (.int v1), some (.int v2), some (.int v3), none] [] h 0 0 := by
  unfold Mod_totalOf_j55
  refine J_iload_n (pc' := 56) ok (dOf dX11_totalOf 35 rfl) rfl rfl rfl ?_
  exact J_ireturn ok (dOf dX11_totalOf 36 rfl) rfl (Eq.refl 0) (Nat.le_refl 0)
def Mod_totalOf (v0 : Nat) (v1 : Int32) (h : AHeap) : Option (Int32 × AHeap) :=
  (chk h v0 11).bind fun _ => bnd2 (Mod_feesOf v0 v1 h) fun x2 h1 => (iter (Mod_totalOf_b8 v0 v1) Lmax (x2, 0, h1)).bind (Sum.elim (fun (q8 : Int32 × Int32 × Int32 × AHeap) => Mod_totalOf_j32 v0 v1 q8.1 q8.2.1 q8.2.2.1 q8.2.2.2) (fun (q8 : Int32 × Int32 × AHeap) => Mod_totalOf_j55 v0 v1 q8.1 q8.2.1 q8.2.2))
theorem t_Mod_totalOf {l : Launch} {G : GX} {v0 : Nat} {v1 : Int32} {h : AHeap} {v : Int32} {h1 : AHeap} (hf : Mod_totalOf v0 v1 h = some (v, h1)) : CT l G kMod_totalOf 0 0 [.ref v0, .int v1] h (some (.int v)) h1 := by
  refine CT_of (ls := [some (.ref v0), some (.int v1), none, none, none]) (Z := fun z => z = (v, h1)) (by decide +kernel) (Nat.le_of_ble_eq_true rfl) hf rfl ⟨rfl, rfl, trivial⟩ (fun E ok => ?_)
  unfold Mod_totalOf
  refine J_aload_n (pc' := 1) ok (dOf dX11_totalOf 0 rfl) rfl rfl rfl ?_
  refine J_iload_n (pc' := 2) ok (dOf dX11_totalOf 1 rfl) rfl rfl rfl ?_
  refine J_callVi (k2 := kMod_feesOf) (ci := 11) (T := TX11) (N := 29) (as := [.int v1]) (pc' := 5) ok (dOf dX11_totalOf 2 rfl) rfl (cw_Mod_feesOf (by decide) (by decide)) wml_X11_258 winst_X11_feesOf wsel_X11_feesOf rfl ⟨Nat.le_refl 0, Nat.le_refl 0⟩ (Nat.le_of_ble_eq_true rfl) rfl (fun _ _ hf => t_Mod_feesOf hf) (fun x2 h1 => ?_)
  refine J_istore_n (ls' := [some (.ref v0), some (.int v1), some (.int x2), none, none]) (pc' := 6) ok (dOf dX11_totalOf 3 rfl) rfl rfl (Nat.le_of_ble_eq_true rfl) rfl rfl ?_
  refine J_iconst (v := 0) (pc' := 7) ok (dOf dX11_totalOf 4 rfl) rfl (by decide) ?_
  refine J_istore_n (ls' := [some (.ref v0), some (.int v1), some (.int x2), some (.int 0), none]) (pc' := 8) ok (dOf dX11_totalOf 5 rfl) rfl rfl (Nat.le_of_ble_eq_true rfl) rfl rfl ?_
  refine J_iter (lf := fun z8 => [some (.ref v0), some (.int v1), some (.int z8.1), some (.int z8.2.1), none]) (sf := fun _ => []) (hf := fun z8 => z8.2.2) (px := (Sum.elim (fun (q8 : Int32 × Int32 × Int32 × AHeap) => 32) (fun (q8 : Int32 × Int32 × AHeap) => 55))) (lx := (Sum.elim (fun (q8 : Int32 × Int32 × Int32 × AHeap) => [some (.ref v0), some (.int v1), some (.int q8.1), some (.int q8.2.1), some (.int q8.2.2.1)]) (fun (q8 : Int32 × Int32 × AHeap) => [some (.ref v0), some (.int v1), some (.int q8.1), some (.int q8.2.1), none]))) (sx := (Sum.elim (fun (q8 : Int32 × Int32 × Int32 × AHeap) => []) (fun (q8 : Int32 × Int32 × AHeap) => []))) (hx := (Sum.elim (fun (q8 : Int32 × Int32 × Int32 × AHeap) => q8.2.2.2) (fun (q8 : Int32 × Int32 × AHeap) => q8.2.2))) (fun Y2 z8 m1 m2 => Mod_totalOf_b8_J ok v0 v1 m1 (fun q hq => m2 (Sum.inl q) hq) (fun q hq => m2 (Sum.inr q) hq) z8) (fun q8 => ?_) Lmax _
  rcases q8 with q8 | q8
  · show J E kMod_totalOf (Mod_totalOf_j32 v0 v1 q8.1 q8.2.1 q8.2.2.1 q8.2.2.2) _ 32 [some (.ref v0), some (.int v1), some (.int q8.1), some (.int q8.2.1), some (.int q8.2.2.1)] [] q8.2.2.2 0 0
    exact Mod_totalOf_j32_J ok v0 v1 q8.1 q8.2.1 q8.2.2.1 q8.2.2.2
  · show J E kMod_totalOf (Mod_totalOf_j55 v0 v1 q8.1 q8.2.1 q8.2.2) _ 55 [some (.ref v0), some (.int v1), some (.int q8.1), some (.int q8.2.1), none] [] q8.2.2 0 0
    exact Mod_totalOf_j55_J ok v0 v1 q8.1 q8.2.1 q8.2.2
-- X11_laysNew
abbrev kMod_laysNew : Cd := (yX11_laysNew, cX11_laysNew, 5, none, 0, 0)
theorem dX11_laysNew : dcheck cX11_laysNew [(0, .bipush 13, 2), (2, .aload_n 0, 1), (3, .getfield 267, 3), (6, .imul, 1), (7, .istore_n 3, 1), (8, .aload_n 0, 1), (9, .getfield 60, 3), (12, .iload_n 3, 1), (13, .iload_n 1, 1), (14, .iastore, 1), (15, .aload_n 0, 1), (16, .getfield 60, 3), (19, .iload_n 3, 1), (20, .iconst 1, 1), (21, .iadd, 1), (22, .iload_n 2, 1), (23, .iastore, 1), (24, .aload_n 0, 1), (25, .getfield 60, 3), (28, .iload_n 3, 1), (29, .iconst 2, 1), (30, .iadd, 1), (31, .iconst 0, 1), (32, .iastore, 1), (33, .iconst 0, 1), (34, .istore 4, 2), (36, .iload 4, 2), (38, .iconst 4, 1), (39, .if_icmp .ge 27, 3), (42, .aload_n 0, 1), (43, .getfield 60, 3), (46, .iload_n 3, 1), (47, .iconst 3, 1), (48, .iadd, 1), (49, .iload 4, 2), (51, .iadd, 1), (52, .aload_n 0, 1), (53, .getfield 51, 3), (56, .iload 4, 2), (58, .iaload, 1), (59, .iastore, 1), (60, .iinc 4 1, 3), (63, .goto (-27), 3), (66, .iconst 0, 1), (67, .istore 4, 2), (69, .iload 4, 2), (71, .bipush 6, 2), (73, .if_icmp .ge 28, 3), (76, .aload_n 0, 1), (77, .getfield 60, 3), (80, .iload_n 3, 1), (81, .bipush 7, 2), (83, .iadd, 1), (84, .iload 4, 2), (86, .iadd, 1), (87, .aload_n 0, 1), (88, .getfield 54, 3), (91, .iload 4, 2), (93, .iaload, 1), (94, .iastore, 1), (95, .iinc 4 1, 3), (98, .goto (-29), 3), (101, .aload_n 0, 1), (102, .dup, 1), (103, .getfield 267, 3), (106, .iconst 1, 1), (107, .iadd, 1), (108, .putfield 267, 3), (111, .return_, 1)] = true := by decide +kernel
theorem cw_Mod_laysNew {k : Cd} (h1 : kMod_laysNew.2.2.2.2.1 + 1 ≤ k.2.2.2.2.1) (h2 : 8 + (kMod_laysNew.2.2.1 + 11) + kMod_laysNew.2.2.2.2.2 ≤ k.2.2.2.2.2) : Cw k kMod_laysNew 2 := ⟨wcode_X11_laysNew, wini_SplitProgramModel, ⟨by decide, by decide, by decide +kernel⟩, h1, h2⟩
def Mod_laysNew_b36 (v0 : Nat) (v1 : Int32) (v2 : Int32) (v3 : Int32) (s : Int32 × AHeap) : Option ((Int32 × AHeap) ⊕ ((Int32 × AHeap))) :=
  (if 4 ≤ s.1 then some (Sum.inr (s.1, s.2)) else (gfR s.2 v0 11 26).bind fun a8 => (gfR s.2 v0 11 23).bind fun a9 => (ald 0 s.2 a9 s.1).bind fun x10 => (ast 0 s.2 a8 ((v3 + 3) + s.1) x10).bind fun h11 => some (Sum.inl (s.1 + 1, h11)))
theorem Mod_laysNew_b36_J {E : JE} {l : Launch} {G : GX} {r : Option Value} {h' : AHeap} (ok : JOK E l G kMod_laysNew 0 0 r h') (v0 : Nat) (v1 : Int32) (v2 : Int32) (v3 : Int32) {Y : (Int32 × AHeap) ⊕ ((Int32 × AHeap)) → Prop} (k1 : ∀ s' : Int32 × AHeap, Y (.inl s') → JW E kMod_laysNew 36 [some (.ref v0), some (.int v1), some (.int v2), some (.int v3), some (.int s'.1)] [] s'.2 0 0) (kx66 : ∀ q : Int32 × AHeap, Y (.inr q) → JW E kMod_laysNew 66 [some (.ref v0), some (.int v1), some (.int v2), some (.int v3), some (.int q.1)] [] q.2 0 0) (s : Int32 × AHeap) : J E kMod_laysNew (Mod_laysNew_b36 v0 v1 v2 v3 s) Y 36 [some (.ref v0), some (.int v1), some (.int v2), some (.int v3), some (.int s.1)] [] s.2 0 0 := by
  unfold Mod_laysNew_b36
  refine J_iload (pc' := 38) ok (dOf dX11_laysNew 26 rfl) rfl rfl ?_
  refine J_iconst (v := 4) (pc' := 39) ok (dOf dX11_laysNew 27 rfl) rfl (by decide) ?_
  refine J_icmp_ge (tgt := 66) (pc' := 42) ok (dOf dX11_laysNew 28 rfl) rfl (by decide) ?_ ?_
  · exact J_fin (kx66 (s.1, s.2))
  · refine J_aload_n (pc' := 43) ok (dOf dX11_laysNew 29 rfl) rfl rfl rfl ?_
    refine J_getR (ci := 11) (kf := 26) (C := RX11) (T := TX11) (N := 29) (pc' := 46) ok (dOf dX11_laysNew 30 rfl) rfl (by decide) rfl (by decide) win_11 wfl_X11_60 (fun a8 => ?_)
    refine J_iload_n (pc' := 47) ok (dOf dX11_laysNew 31 rfl) rfl rfl rfl ?_
    refine J_iconst (v := 3) (pc' := 48) ok (dOf dX11_laysNew 32 rfl) rfl (by decide) ?_
    refine J_iadd (pc' := 49) ok (dOf dX11_laysNew 33 rfl) rfl ?_
    refine J_iload (pc' := 51) ok (dOf dX11_laysNew 34 rfl) rfl rfl ?_
    refine J_iadd (pc' := 52) ok (dOf dX11_laysNew 35 rfl) rfl ?_
    refine J_aload_n (pc' := 53) ok (dOf dX11_laysNew 36 rfl) rfl rfl rfl ?_
    refine J_getR (ci := 11) (kf := 23) (C := RX11) (T := TX11) (N := 29) (pc' := 56) ok (dOf dX11_laysNew 37 rfl) rfl (by decide) rfl (by decide) win_11 wfl_X11_51 (fun a9 => ?_)
    refine J_iload (pc' := 58) ok (dOf dX11_laysNew 38 rfl) rfl rfl ?_
    refine J_iald (pc' := 59) ok (dOf dX11_laysNew 39 rfl) rfl (fun x10 => ?_)
    refine J_iast (pc' := 60) ok (dOf dX11_laysNew 40 rfl) rfl (fun h11 _ => ?_)
    refine J_iinc (v := s.1 + 1) (ls' := [some (.ref v0), some (.int v1), some (.int v2), some (.int v3), some (.int (s.1 + 1))]) (pc' := 63) ok (dOf dX11_laysNew 41 rfl) rfl rfl (by rfl) (Nat.le_of_ble_eq_true rfl) rfl rfl ?_
    refine J_goto (tgt := 36) ok (dOf dX11_laysNew 42 rfl) (by decide) ?_
    exact J_fin (k1 (s.1 + 1, h11))
def Mod_laysNew_b69 (v0 : Nat) (v1 : Int32) (v2 : Int32) (v3 : Int32) (s : Int32 × AHeap) : Option ((Int32 × AHeap) ⊕ ((Int32 × AHeap))) :=
  (if 6 ≤ s.1 then some (Sum.inr (s.1, s.2)) else (gfR s.2 v0 11 26).bind fun a12 => (gfR s.2 v0 11 24).bind fun a13 => (ald 0 s.2 a13 s.1).bind fun x14 => (ast 0 s.2 a12 ((v3 + 7) + s.1) x14).bind fun h15 => some (Sum.inl (s.1 + 1, h15)))
theorem Mod_laysNew_b69_J {E : JE} {l : Launch} {G : GX} {r : Option Value} {h' : AHeap} (ok : JOK E l G kMod_laysNew 0 0 r h') (v0 : Nat) (v1 : Int32) (v2 : Int32) (v3 : Int32) {Y : (Int32 × AHeap) ⊕ ((Int32 × AHeap)) → Prop} (k1 : ∀ s' : Int32 × AHeap, Y (.inl s') → JW E kMod_laysNew 69 [some (.ref v0), some (.int v1), some (.int v2), some (.int v3), some (.int s'.1)] [] s'.2 0 0) (kx101 : ∀ q : Int32 × AHeap, Y (.inr q) → JW E kMod_laysNew 101 [some (.ref v0), some (.int v1), some (.int v2), some (.int v3), some (.int q.1)] [] q.2 0 0) (s : Int32 × AHeap) : J E kMod_laysNew (Mod_laysNew_b69 v0 v1 v2 v3 s) Y 69 [some (.ref v0), some (.int v1), some (.int v2), some (.int v3), some (.int s.1)] [] s.2 0 0 := by
  unfold Mod_laysNew_b69
  refine J_iload (pc' := 71) ok (dOf dX11_laysNew 45 rfl) rfl rfl ?_
  refine J_bipush (v := 6) (pc' := 73) ok (dOf dX11_laysNew 46 rfl) rfl (by decide) ?_
  refine J_icmp_ge (tgt := 101) (pc' := 76) ok (dOf dX11_laysNew 47 rfl) rfl (by decide) ?_ ?_
  · exact J_fin (kx101 (s.1, s.2))
  · refine J_aload_n (pc' := 77) ok (dOf dX11_laysNew 48 rfl) rfl rfl rfl ?_
    refine J_getR (ci := 11) (kf := 26) (C := RX11) (T := TX11) (N := 29) (pc' := 80) ok (dOf dX11_laysNew 49 rfl) rfl (by decide) rfl (by decide) win_11 wfl_X11_60 (fun a12 => ?_)
    refine J_iload_n (pc' := 81) ok (dOf dX11_laysNew 50 rfl) rfl rfl rfl ?_
    refine J_bipush (v := 7) (pc' := 83) ok (dOf dX11_laysNew 51 rfl) rfl (by decide) ?_
    refine J_iadd (pc' := 84) ok (dOf dX11_laysNew 52 rfl) rfl ?_
    refine J_iload (pc' := 86) ok (dOf dX11_laysNew 53 rfl) rfl rfl ?_
    refine J_iadd (pc' := 87) ok (dOf dX11_laysNew 54 rfl) rfl ?_
    refine J_aload_n (pc' := 88) ok (dOf dX11_laysNew 55 rfl) rfl rfl rfl ?_
    refine J_getR (ci := 11) (kf := 24) (C := RX11) (T := TX11) (N := 29) (pc' := 91) ok (dOf dX11_laysNew 56 rfl) rfl (by decide) rfl (by decide) win_11 wfl_X11_54 (fun a13 => ?_)
    refine J_iload (pc' := 93) ok (dOf dX11_laysNew 57 rfl) rfl rfl ?_
    refine J_iald (pc' := 94) ok (dOf dX11_laysNew 58 rfl) rfl (fun x14 => ?_)
    refine J_iast (pc' := 95) ok (dOf dX11_laysNew 59 rfl) rfl (fun h15 _ => ?_)
    refine J_iinc (v := s.1 + 1) (ls' := [some (.ref v0), some (.int v1), some (.int v2), some (.int v3), some (.int (s.1 + 1))]) (pc' := 98) ok (dOf dX11_laysNew 60 rfl) rfl rfl (by rfl) (Nat.le_of_ble_eq_true rfl) rfl rfl ?_
    refine J_goto (tgt := 69) ok (dOf dX11_laysNew 61 rfl) (by decide) ?_
    exact J_fin (k1 (s.1 + 1, h15))
def Mod_laysNew_j101 (v0 : Nat) (v1 : Int32) (v2 : Int32) (v3 : Int32) (v4 : Int32) (h : AHeap) : Option (Unit × AHeap) :=
  (gfI h v0 11 27).bind fun x16 => (pfV h v0 11 27 (.int (x16 + 1))).bind fun h17 => some ((), h17)
theorem Mod_laysNew_j101_J {E : JE} {l : Launch} {G : GX} {h' : AHeap} (ok : JOK E l G kMod_laysNew 0 0 none h') (v0 : Nat) (v1 : Int32) (v2 : Int32) (v3 : Int32) (v4 : Int32) (h : AHeap) : J E kMod_laysNew (Mod_laysNew_j101 v0 v1 v2 v3 v4 h) (fun z => z = ((), h')) 101 [some (.ref v0), some (.int v1), some (.int v2), some (.int v3), some (.int v4)] [] h 0 0 := by
  unfold Mod_laysNew_j101
  refine J_aload_n (pc' := 102) ok (dOf dX11_laysNew 62 rfl) rfl rfl rfl ?_
  refine J_dup (pc' := 103) ok (dOf dX11_laysNew 63 rfl) rfl rfl ?_
  refine J_getI (ci := 11) (kf := 27) (C := RX11) (T := TX11) (N := 29) (pc' := 106) ok (dOf dX11_laysNew 64 rfl) rfl (by decide) rfl (by decide) win_11 wfl_X11_267 (fun x16 => ?_)
  refine J_iconst (v := 1) (pc' := 107) ok (dOf dX11_laysNew 65 rfl) rfl (by decide) ?_
  refine J_iadd (pc' := 108) ok (dOf dX11_laysNew 66 rfl) rfl ?_
  refine J_putI (ci := 11) (kf := 27) (C := RX11) (T := TX11) (N := 29) (pc' := 111) ok tyX11 (dOf dX11_laysNew 67 rfl) rfl rfl (by decide) win_11 tyX11_ok nmX11 rfl rfl wfl_X11_267 (fun h17 _ => ?_)
  exact J_vreturn ok (dOf dX11_laysNew 68 rfl) rfl (Eq.refl 0) (Nat.le_refl 0)
def Mod_laysNew_j66 (v0 : Nat) (v1 : Int32) (v2 : Int32) (v3 : Int32) (v4 : Int32) (h : AHeap) : Option (Unit × AHeap) :=
  (iter (Mod_laysNew_b69 v0 v1 v2 v3) Lmax (0, h)).bind (fun (q69 : Int32 × AHeap) => Mod_laysNew_j101 v0 v1 v2 v3 q69.1 q69.2)
theorem Mod_laysNew_j66_J {E : JE} {l : Launch} {G : GX} {h' : AHeap} (ok : JOK E l G kMod_laysNew 0 0 none h') (v0 : Nat) (v1 : Int32) (v2 : Int32) (v3 : Int32) (v4 : Int32) (h : AHeap) : J E kMod_laysNew (Mod_laysNew_j66 v0 v1 v2 v3 v4 h) (fun z => z = ((), h')) 66 [some (.ref v0), some (.int v1), some (.int v2), some (.int v3), some (.int v4)] [] h 0 0 := by
  unfold Mod_laysNew_j66
  refine J_iconst (v := 0) (pc' := 67) ok (dOf dX11_laysNew 43 rfl) rfl (by decide) ?_
  refine J_istore (ls' := [some (.ref v0), some (.int v1), some (.int v2), some (.int v3), some (.int 0)]) (pc' := 69) ok (dOf dX11_laysNew 44 rfl) rfl (Nat.le_of_ble_eq_true rfl) rfl rfl ?_
  refine J_iter (lf := fun z69 => [some (.ref v0), some (.int v1), some (.int v2), some (.int v3), some (.int z69.1)]) (sf := fun _ => []) (hf := fun z69 => z69.2) (px := (fun (q69 : Int32 × AHeap) => 101)) (lx := (fun (q69 : Int32 × AHeap) => [some (.ref v0), some (.int v1), some (.int v2), some (.int v3), some (.int q69.1)])) (sx := (fun (q69 : Int32 × AHeap) => [])) (hx := (fun (q69 : Int32 × AHeap) => q69.2)) (fun Y2 z69 m1 m2 => Mod_laysNew_b69_J ok v0 v1 v2 v3 m1 m2 z69) (fun q69 => ?_) Lmax _
  exact Mod_laysNew_j101_J ok v0 v1 v2 v3 q69.1 q69.2
def Mod_laysNew (v0 : Nat) (v1 : Int32) (v2 : Int32) (h : AHeap) : Option (Unit × AHeap) :=
  (gfI h v0 11 27).bind fun x1 => (gfR h v0 11 26).bind fun a2 => (ast 0 h a2 (13 * x1) v1).bind fun h3 => (gfR h3 v0 11 26).bind fun a4 => (ast 0 h3 a4 ((13 * x1) + 1) v2).bind fun h5 => (gfR h5 v0 11 26).bind fun a6 => (ast 0 h5 a6 ((13 * x1) + 2) 0).bind fun h7 => (iter (Mod_laysNew_b36 v0 v1 v2 (13 * x1)) Lmax (0, h7)).bind (fun (q36 : Int32 × AHeap) => Mod_laysNew_j66 v0 v1 v2 (13 * x1) q36.1 q36.2)
theorem t_Mod_laysNew {l : Launch} {G : GX} {v0 : Nat} {v1 : Int32} {v2 : Int32} {h : AHeap} {h1 : AHeap} (hf : Mod_laysNew v0 v1 v2 h = some ((), h1)) : CT l G kMod_laysNew 0 0 [.ref v0, .int v1, .int v2] h none h1 := by
  refine CT_of (ls := [some (.ref v0), some (.int v1), some (.int v2), none, none]) (Z := fun z => z = ((), h1)) (by decide +kernel) (Nat.le_of_ble_eq_true rfl) hf rfl ⟨rfl, rfl, rfl, trivial⟩ (fun E ok => ?_)
  unfold Mod_laysNew
  refine J_bipush (v := 13) (pc' := 2) ok (dOf dX11_laysNew 0 rfl) rfl (by decide) ?_
  refine J_aload_n (pc' := 3) ok (dOf dX11_laysNew 1 rfl) rfl rfl rfl ?_
  refine J_getI (ci := 11) (kf := 27) (C := RX11) (T := TX11) (N := 29) (pc' := 6) ok (dOf dX11_laysNew 2 rfl) rfl (by decide) rfl (by decide) win_11 wfl_X11_267 (fun x1 => ?_)
  refine J_imul (pc' := 7) ok (dOf dX11_laysNew 3 rfl) rfl ?_
  refine J_istore_n (ls' := [some (.ref v0), some (.int v1), some (.int v2), some (.int (13 * x1)), none]) (pc' := 8) ok (dOf dX11_laysNew 4 rfl) rfl rfl (Nat.le_of_ble_eq_true rfl) rfl rfl ?_
  refine J_aload_n (pc' := 9) ok (dOf dX11_laysNew 5 rfl) rfl rfl rfl ?_
  refine J_getR (ci := 11) (kf := 26) (C := RX11) (T := TX11) (N := 29) (pc' := 12) ok (dOf dX11_laysNew 6 rfl) rfl (by decide) rfl (by decide) win_11 wfl_X11_60 (fun a2 => ?_)
  refine J_iload_n (pc' := 13) ok (dOf dX11_laysNew 7 rfl) rfl rfl rfl ?_
  refine J_iload_n (pc' := 14) ok (dOf dX11_laysNew 8 rfl) rfl rfl rfl ?_
  refine J_iast (pc' := 15) ok (dOf dX11_laysNew 9 rfl) rfl (fun h3 _ => ?_)
  refine J_aload_n (pc' := 16) ok (dOf dX11_laysNew 10 rfl) rfl rfl rfl ?_
  refine J_getR (ci := 11) (kf := 26) (C := RX11) (T := TX11) (N := 29) (pc' := 19) ok (dOf dX11_laysNew 11 rfl) rfl (by decide) rfl (by decide) win_11 wfl_X11_60 (fun a4 => ?_)
  refine J_iload_n (pc' := 20) ok (dOf dX11_laysNew 12 rfl) rfl rfl rfl ?_
  refine J_iconst (v := 1) (pc' := 21) ok (dOf dX11_laysNew 13 rfl) rfl (by decide) ?_
  refine J_iadd (pc' := 22) ok (dOf dX11_laysNew 14 rfl) rfl ?_
  refine J_iload_n (pc' := 23) ok (dOf dX11_laysNew 15 rfl) rfl rfl rfl ?_
  refine J_iast (pc' := 24) ok (dOf dX11_laysNew 16 rfl) rfl (fun h5 _ => ?_)
  refine J_aload_n (pc' := 25) ok (dOf dX11_laysNew 17 rfl) rfl rfl rfl ?_
  refine J_getR (ci := 11) (kf := 26) (C := RX11) (T := TX11) (N := 29) (pc' := 28) ok (dOf dX11_laysNew 18 rfl) rfl (by decide) rfl (by decide) win_11 wfl_X11_60 (fun a6 => ?_)
  refine J_iload_n (pc' := 29) ok (dOf dX11_laysNew 19 rfl) rfl rfl rfl ?_
  refine J_iconst (v := 2) (pc' := 30) ok (dOf dX11_laysNew 20 rfl) rfl (by decide) ?_
  refine J_iadd (pc' := 31) ok (dOf dX11_laysNew 21 rfl) rfl ?_
  refine J_iconst (v := 0) (pc' := 32) ok (dOf dX11_laysNew 22 rfl) rfl (by decide) ?_
  refine J_iast (pc' := 33) ok (dOf dX11_laysNew 23 rfl) rfl (fun h7 _ => ?_)
  refine J_iconst (v := 0) (pc' := 34) ok (dOf dX11_laysNew 24 rfl) rfl (by decide) ?_
  refine J_istore (ls' := [some (.ref v0), some (.int v1), some (.int v2), some (.int (13 * x1)), some (.int 0)]) (pc' := 36) ok (dOf dX11_laysNew 25 rfl) rfl (Nat.le_of_ble_eq_true rfl) rfl rfl ?_
  refine J_iter (lf := fun z36 => [some (.ref v0), some (.int v1), some (.int v2), some (.int (13 * x1)), some (.int z36.1)]) (sf := fun _ => []) (hf := fun z36 => z36.2) (px := (fun (q36 : Int32 × AHeap) => 66)) (lx := (fun (q36 : Int32 × AHeap) => [some (.ref v0), some (.int v1), some (.int v2), some (.int (13 * x1)), some (.int q36.1)])) (sx := (fun (q36 : Int32 × AHeap) => [])) (hx := (fun (q36 : Int32 × AHeap) => q36.2)) (fun Y2 z36 m1 m2 => Mod_laysNew_b36_J ok v0 v1 v2 (13 * x1) m1 m2 z36) (fun q36 => ?_) Lmax _
  exact Mod_laysNew_j66_J ok v0 v1 v2 (13 * x1) q36.1 q36.2
-- X11_finds
abbrev kMod_finds : Cd := (yX11_finds, cX11_finds, 10, none, 7, 166)
theorem dX11_finds : dcheck cX11_finds [(0, .aload_n 0, 1), (1, .iconst 0, 1), (2, .putfield 267, 3), (5, .iconst (-1), 1), (6, .istore_n 2, 1), (7, .iconst 0, 1), (8, .istore_n 3, 1), (9, .iconst 0, 1), (10, .istore 4, 2), (12, .iconst 0, 1), (13, .istore 5, 2), (15, .iload 5, 2), (17, .aload_n 0, 1), (18, .getfield 22, 3), (21, .iconst 2, 1), (22, .iaload, 1), (23, .if_icmp .ge 151, 3), (26, .aload_n 0, 1), (27, .iload 5, 2), (29, .iload_n 1, 1), (30, .invokevirtual 264, 3), (33, .istore 6, 2), (35, .aload_n 0, 1), (36, .getfield 215, 3), (39, .istore 7, 2), (41, .iload 6, 2), (43, .iconst (-1), 1), (44, .if_icmp .ne 8, 3), (47, .iload 7, 2), (49, .goto 24, 3), (52, .aload_n 0, 1), (53, .getfield 22, 3), (56, .bipush 47, 2), (58, .iload 5, 2), (60, .iadd, 1), (61, .iaload, 1), (62, .iload 6, 2), (64, .aload_n 0, 1), (65, .iload 5, 2), (67, .iload_n 1, 1), (68, .invokevirtual 261, 3), (71, .isub, 1), (72, .imul, 1), (73, .istore 8, 2), (75, .iload 6, 2), (77, .iconst (-1), 1), (78, .if_icmp .eq 11, 3), (81, .iload 8, 2), (83, .ifCond .gt 6, 3), (86, .goto 82, 3), (89, .aload_n 0, 1), (90, .getfield 13, 3), (93, .iconst 0, 1), (94, .iaload, 1), (95, .ifCond .ne 23, 3), (98, .aload_n 0, 1), (99, .iload 5, 2), (101, .iload 6, 2), (103, .iconst (-1), 1), (104, .if_icmp .ne 7, 3), (107, .iconst 1, 1), (108, .goto 4, 3), (111, .iconst 0, 1), (112, .invokevirtual 270, 3), (115, .goto 53, 3), (118, .iload 6, 2), (120, .iconst (-1), 1), (121, .if_icmp .ne 7, 3), (124, .iconst 1, 1), (125, .goto 4, 3), (128, .iconst 0, 1), (129, .istore 9, 2), (131, .iload_n 2, 1), (132, .iconst (-1), 1), (133, .if_icmp .eq 25, 3), (136, .iload 9, 2), (138, .iload_n 3, 1), (139, .if_icmp .lt 29, 3), (142, .iload 9, 2), (144, .iload_n 3, 1), (145, .if_icmp .ne 13, 3), (148, .iload 8, 2), (150, .iload 4, 2), (152, .if_icmp .gt 6, 3), (155, .goto 13, 3), (158, .iload 5, 2), (160, .istore_n 2, 1), (161, .iload 9, 2), (163, .istore_n 3, 1), (164, .iload 8, 2), (166, .istore 4, 2), (168, .iinc 5 1, 3), (171, .goto (-156), 3), (174, .iload_n 2, 1), (175, .iconst (-1), 1), (176, .if_icmp .ne 4, 3), (179, .return_, 1), (180, .aload_n 0, 1), (181, .iload_n 2, 1), (182, .iload_n 1, 1), (183, .invokevirtual 264, 3), (186, .istore 5, 2), (188, .aload_n 0, 1), (189, .iload_n 2, 1), (190, .iload_n 3, 1), (191, .invokevirtual 270, 3), (194, .return_, 1)] = true := by decide +kernel
theorem cw_Mod_finds {k : Cd} (h1 : kMod_finds.2.2.2.2.1 + 1 ≤ k.2.2.2.2.1) (h2 : 8 + (kMod_finds.2.2.1 + 11) + kMod_finds.2.2.2.2.2 ≤ k.2.2.2.2.2) : Cw k kMod_finds 1 := ⟨wcode_X11_finds, wini_SplitProgramModel, ⟨by decide, by decide, by decide +kernel⟩, h1, h2⟩
def Mod_finds_j168 (v0 : Nat) (v1 : Int32) (v2 : Int32) (v3 : Int32) (v4 : Int32) (v5 : Int32) (v6 : Int32) (v7 : Int32) (v8 : Int32) (h : AHeap) : Option ((Int32 × Int32 × Int32 × Int32 × AHeap) ⊕ ((Int32 × Int32 × Int32 × Int32 × AHeap))) :=
  some (Sum.inl (v2, v3, v4, v5 + 1, h))
theorem Mod_finds_j168_J {E : JE} {l : Launch} {G : GX} {r : Option Value} {h' : AHeap} (ok : JOK E l G kMod_finds 0 0 r h') (v0 : Nat) (v1 : Int32) (v2 : Int32) (v3 : Int32) (v4 : Int32) (v5 : Int32) (v6 : Int32) (v7 : Int32) (v8 : Int32) (h : AHeap) {Y : (Int32 × Int32 × Int32 × Int32 × AHeap) ⊕ ((Int32 × Int32 × Int32 × Int32 × AHeap)) → Prop} (k1 : ∀ s' : Int32 × Int32 × Int32 × Int32 × AHeap, Y (.inl s') → JW E kMod_finds 15 [some (.ref v0), some (.int v1), some (.int s'.1), some (.int s'.2.1), some (.int s'.2.2.1), some (.int s'.2.2.2.1), none, none, none, none] [] s'.2.2.2.2 0 0) (kx174 : ∀ q : Int32 × Int32 × Int32 × Int32 × AHeap, Y (.inr q) → JW E kMod_finds 174 [some (.ref v0), some (.int v1), some (.int q.1), some (.int q.2.1), some (.int q.2.2.1), some (.int q.2.2.2.1), none, none, none, none] [] q.2.2.2.2 0 0) : J E kMod_finds (Mod_finds_j168 v0 v1 v2 v3 v4 v5 v6 v7 v8 h) Y 168 [some (.ref v0), some (.int v1), some (.int v2), some (.int v3), some (.int v4), some (.int v5), some (.int v6), some (.int v7), some (.int v8), none] [] h 0 0 := by
  unfold Mod_finds_j168
  refine J_iinc (v := v5 + 1) (ls' := [some (.ref v0), some (.int v1), some (.int v2), some (.int v3), some (.int v4), some (.int (v5 + 1)), some (.int v6), some (.int v7), some (.int v8), none]) (pc' := 171) ok (dOf dX11_finds 91 rfl) rfl rfl (by rfl) (Nat.le_of_ble_eq_true rfl) rfl rfl ?_
  refine J_goto (tgt := 15) ok (dOf dX11_finds 92 rfl) (by decide) ?_
  refine J_weak (ls' := [some (.ref v0), some (.int v1), some (.int v2), some (.int v3), some (.int v4), some (.int (v5 + 1)), none, none, none, none]) ⟨rfl, rfl, rfl, rfl, rfl, rfl, trivial⟩ ?_
  exact J_fin (k1 (v2, v3, v4, v5 + 1, h))
def Mod_finds_j158 (v0 : Nat) (v1 : Int32) (v2 : Int32) (v3 : Int32) (v4 : Int32) (v5 : Int32) (v6 : Int32) (v7 : Int32) (v8 : Int32) (v9 : Int32) (h : AHeap) : Option ((Int32 × Int32 × Int32 × Int32 × AHeap) ⊕ ((Int32 × Int32 × Int32 × Int32 × AHeap))) :=
  Mod_finds_j168 v0 v1 v5 v9 v8 v5 v6 v7 v8 h
theorem Mod_finds_j158_J {E : JE} {l : Launch} {G : GX} {r : Option Value} {h' : AHeap} (ok : JOK E l G kMod_finds 0 0 r h') (v0 : Nat) (v1 : Int32) (v2 : Int32) (v3 : Int32) (v4 : Int32) (v5 : Int32) (v6 : Int32) (v7 : Int32) (v8 : Int32) (v9 : Int32) (h : AHeap) {Y : (Int32 × Int32 × Int32 × Int32 × AHeap) ⊕ ((Int32 × Int32 × Int32 × Int32 × AHeap)) → Prop} (k1 : ∀ s' : Int32 × Int32 × Int32 × Int32 × AHeap, Y (.inl s') → JW E kMod_finds 15 [some (.ref v0), some (.int v1), some (.int s'.1), some (.int s'.2.1), some (.int s'.2.2.1), some (.int s'.2.2.2.1), none, none, none, none] [] s'.2.2.2.2 0 0) (kx174 : ∀ q : Int32 × Int32 × Int32 × Int32 × AHeap, Y (.inr q) → JW E kMod_finds 174 [some (.ref v0), some (.int v1), some (.int q.1), some (.int q.2.1), some (.int q.2.2.1), some (.int q.2.2.2.1), none, none, none, none] [] q.2.2.2.2 0 0) : J E kMod_finds (Mod_finds_j158 v0 v1 v2 v3 v4 v5 v6 v7 v8 v9 h) Y 158 [some (.ref v0), some (.int v1), some (.int v2), some (.int v3), some (.int v4), some (.int v5), some (.int v6), some (.int v7), some (.int v8), some (.int v9)] [] h 0 0 := by
  unfold Mod_finds_j158
  refine J_iload (pc' := 160) ok (dOf dX11_finds 85 rfl) rfl rfl ?_
  refine J_istore_n (ls' := [some (.ref v0), some (.int v1), some (.int v5), some (.int v3), some (.int v4), some (.int v5), some (.int v6), some (.int v7), some (.int v8), some (.int v9)]) (pc' := 161) ok (dOf dX11_finds 86 rfl) rfl rfl (Nat.le_of_ble_eq_true rfl) rfl rfl ?_
  refine J_iload (pc' := 163) ok (dOf dX11_finds 87 rfl) rfl rfl ?_
  refine J_istore_n (ls' := [some (.ref v0), some (.int v1), some (.int v5), some (.int v9), some (.int v4), some (.int v5), some (.int v6), some (.int v7), some (.int v8), some (.int v9)]) (pc' := 164) ok (dOf dX11_finds 88 rfl) rfl rfl (Nat.le_of_ble_eq_true rfl) rfl rfl ?_
  refine J_iload (pc' := 166) ok (dOf dX11_finds 89 rfl) rfl rfl ?_
  refine J_istore (ls' := [some (.ref v0), some (.int v1), some (.int v5), some (.int v9), some (.int v8), some (.int v5), some (.int v6), some (.int v7), some (.int v8), some (.int v9)]) (pc' := 168) ok (dOf dX11_finds 90 rfl) rfl (Nat.le_of_ble_eq_true rfl) rfl rfl ?_
  refine J_weak (ls' := [some (.ref v0), some (.int v1), some (.int v5), some (.int v9), some (.int v8), some (.int v5), some (.int v6), some (.int v7), some (.int v8), none]) ⟨rfl, rfl, rfl, rfl, rfl, rfl, rfl, rfl, rfl, trivial⟩ ?_
  exact Mod_finds_j168_J ok v0 v1 v5 v9 v8 v5 v6 v7 v8 h k1 kx174
def Mod_finds_j129 (v0 : Nat) (v1 : Int32) (v2 : Int32) (v3 : Int32) (v4 : Int32) (v5 : Int32) (v6 : Int32) (v7 : Int32) (v8 : Int32) (t0 : Int32) (h : AHeap) : Option ((Int32 × Int32 × Int32 × Int32 × AHeap) ⊕ ((Int32 × Int32 × Int32 × Int32 × AHeap))) :=
  (if v2 = (-1) then Mod_finds_j158 v0 v1 v2 v3 v4 v5 v6 v7 v8 t0 h else (if t0 < v3 then Mod_finds_j168 v0 v1 v2 v3 v4 v5 v6 v7 v8 h else (if ¬ t0 = v3 then Mod_finds_j158 v0 v1 v2 v3 v4 v5 v6 v7 v8 t0 h else (if v4 < v8 then Mod_finds_j158 v0 v1 v2 v3 v4 v5 v6 v7 v8 t0 h else Mod_finds_j168 v0 v1 v2 v3 v4 v5 v6 v7 v8 h))))
theorem Mod_finds_j129_J {E : JE} {l : Launch} {G : GX} {r : Option Value} {h' : AHeap} (ok : JOK E l G kMod_finds 0 0 r h') (v0 : Nat) (v1 : Int32) (v2 : Int32) (v3 : Int32) (v4 : Int32) (v5 : Int32) (v6 : Int32) (v7 : Int32) (v8 : Int32) (t0 : Int32) (h : AHeap) {Y : (Int32 × Int32 × Int32 × Int32 × AHeap) ⊕ ((Int32 × Int32 × Int32 × Int32 × AHeap)) → Prop} (k1 : ∀ s' : Int32 × Int32 × Int32 × Int32 × AHeap, Y (.inl s') → JW E kMod_finds 15 [some (.ref v0), some (.int v1), some (.int s'.1), some (.int s'.2.1), some (.int s'.2.2.1), some (.int s'.2.2.2.1), none, none, none, none] [] s'.2.2.2.2 0 0) (kx174 : ∀ q : Int32 × Int32 × Int32 × Int32 × AHeap, Y (.inr q) → JW E kMod_finds 174 [some (.ref v0), some (.int v1), some (.int q.1), some (.int q.2.1), some (.int q.2.2.1), some (.int q.2.2.2.1), none, none, none, none] [] q.2.2.2.2 0 0) : J E kMod_finds (Mod_finds_j129 v0 v1 v2 v3 v4 v5 v6 v7 v8 t0 h) Y 129 [some (.ref v0), some (.int v1), some (.int v2), some (.int v3), some (.int v4), some (.int v5), some (.int v6), some (.int v7), some (.int v8), none] [.int t0] h 0 0 := by
  unfold Mod_finds_j129
  refine J_istore (ls' := [some (.ref v0), some (.int v1), some (.int v2), some (.int v3), some (.int v4), some (.int v5), some (.int v6), some (.int v7), some (.int v8), some (.int t0)]) (pc' := 131) ok (dOf dX11_finds 71 rfl) rfl (Nat.le_of_ble_eq_true rfl) rfl rfl ?_
  refine J_iload_n (pc' := 132) ok (dOf dX11_finds 72 rfl) rfl rfl rfl ?_
  refine J_iconst (v := (-1)) (pc' := 133) ok (dOf dX11_finds 73 rfl) rfl (by decide) ?_
  refine J_icmp_eq (tgt := 158) (pc' := 136) ok (dOf dX11_finds 74 rfl) rfl (by decide) ?_ ?_
  · exact Mod_finds_j158_J ok v0 v1 v2 v3 v4 v5 v6 v7 v8 t0 h k1 kx174
  · refine J_iload (pc' := 138) ok (dOf dX11_finds 75 rfl) rfl rfl ?_
    refine J_iload_n (pc' := 139) ok (dOf dX11_finds 76 rfl) rfl rfl rfl ?_
    refine J_icmp_lt (tgt := 168) (pc' := 142) ok (dOf dX11_finds 77 rfl) rfl (by decide) ?_ ?_
    · refine J_weak (ls' := [some (.ref v0), some (.int v1), some (.int v2), some (.int v3), some (.int v4), some (.int v5), some (.int v6), some (.int v7), some (.int v8), none]) ⟨rfl, rfl, rfl, rfl, rfl, rfl, rfl, rfl, rfl, trivial⟩ ?_
      exact Mod_finds_j168_J ok v0 v1 v2 v3 v4 v5 v6 v7 v8 h k1 kx174
    · refine J_iload (pc' := 144) ok (dOf dX11_finds 78 rfl) rfl rfl ?_
      refine J_iload_n (pc' := 145) ok (dOf dX11_finds 79 rfl) rfl rfl rfl ?_
      refine J_icmp_ne (tgt := 158) (pc' := 148) ok (dOf dX11_finds 80 rfl) rfl (by decide) ?_ ?_
      · exact Mod_finds_j158_J ok v0 v1 v2 v3 v4 v5 v6 v7 v8 t0 h k1 kx174
      · refine J_iload (pc' := 150) ok (dOf dX11_finds 81 rfl) rfl rfl ?_
        refine J_iload (pc' := 152) ok (dOf dX11_finds 82 rfl) rfl rfl ?_
        refine J_icmp_gt (tgt := 158) (pc' := 155) ok (dOf dX11_finds 83 rfl) rfl (by decide) ?_ ?_
        · exact Mod_finds_j158_J ok v0 v1 v2 v3 v4 v5 v6 v7 v8 t0 h k1 kx174
        · refine J_goto (tgt := 168) ok (dOf dX11_finds 84 rfl) (by decide) ?_
          refine J_weak (ls' := [some (.ref v0), some (.int v1), some (.int v2), some (.int v3), some (.int v4), some (.int v5), some (.int v6), some (.int v7), some (.int v8), none]) ⟨rfl, rfl, rfl, rfl, rfl, rfl, rfl, rfl, rfl, trivial⟩ ?_
          exact Mod_finds_j168_J ok v0 v1 v2 v3 v4 v5 v6 v7 v8 h k1 kx174
def Mod_finds_j112 (v0 : Nat) (v1 : Int32) (v2 : Int32) (v3 : Int32) (v4 : Int32) (v5 : Int32) (v6 : Int32) (v7 : Int32) (v8 : Int32) (t0 : Nat) (t1 : Int32) (t2 : Int32) (h : AHeap) : Option ((Int32 × Int32 × Int32 × Int32 × AHeap) ⊕ ((Int32 × Int32 × Int32 × Int32 × AHeap))) :=
  (chk h t0 11).bind fun _ => bnd2 (Mod_laysNew t0 t1 t2 h) fun _ h13 => Mod_finds_j168 v0 v1 v2 v3 v4 v5 v6 v7 v8 h13
theorem Mod_finds_j112_J {E : JE} {l : Launch} {G : GX} {r : Option Value} {h' : AHeap} (ok : JOK E l G kMod_finds 0 0 r h') (v0 : Nat) (v1 : Int32) (v2 : Int32) (v3 : Int32) (v4 : Int32) (v5 : Int32) (v6 : Int32) (v7 : Int32) (v8 : Int32) (t0 : Nat) (t1 : Int32) (t2 : Int32) (h : AHeap) {Y : (Int32 × Int32 × Int32 × Int32 × AHeap) ⊕ ((Int32 × Int32 × Int32 × Int32 × AHeap)) → Prop} (k1 : ∀ s' : Int32 × Int32 × Int32 × Int32 × AHeap, Y (.inl s') → JW E kMod_finds 15 [some (.ref v0), some (.int v1), some (.int s'.1), some (.int s'.2.1), some (.int s'.2.2.1), some (.int s'.2.2.2.1), none, none, none, none] [] s'.2.2.2.2 0 0) (kx174 : ∀ q : Int32 × Int32 × Int32 × Int32 × AHeap, Y (.inr q) → JW E kMod_finds 174 [some (.ref v0), some (.int v1), some (.int q.1), some (.int q.2.1), some (.int q.2.2.1), some (.int q.2.2.2.1), none, none, none, none] [] q.2.2.2.2 0 0) : J E kMod_finds (Mod_finds_j112 v0 v1 v2 v3 v4 v5 v6 v7 v8 t0 t1 t2 h) Y 112 [some (.ref v0), some (.int v1), some (.int v2), some (.int v3), some (.int v4), some (.int v5), some (.int v6), some (.int v7), some (.int v8), none] [.int t2, .int t1, .ref t0] h 0 0 := by
  unfold Mod_finds_j112
  refine J_callVv (k2 := kMod_laysNew) (ci := 11) (T := TX11) (N := 29) (as := [.int t1, .int t2]) (pc' := 115) ok (dOf dX11_finds 63 rfl) rfl (cw_Mod_laysNew (by decide) (by decide)) wml_X11_270 winst_X11_laysNew wsel_X11_laysNew rfl ⟨Nat.le_refl 0, Nat.le_refl 0⟩ (Nat.le_of_ble_eq_true rfl) rfl (fun _ _ hf => t_Mod_laysNew hf) (fun _ h13 => ?_)
  refine J_goto (tgt := 168) ok (dOf dX11_finds 64 rfl) (by decide) ?_
  exact Mod_finds_j168_J ok v0 v1 v2 v3 v4 v5 v6 v7 v8 h13 k1 kx174
def Mod_finds_j89 (v0 : Nat) (v1 : Int32) (v2 : Int32) (v3 : Int32) (v4 : Int32) (v5 : Int32) (v6 : Int32) (v7 : Int32) (v8 : Int32) (h : AHeap) : Option ((Int32 × Int32 × Int32 × Int32 × AHeap) ⊕ ((Int32 × Int32 × Int32 × Int32 × AHeap))) :=
  (gfR h v0 11 2).bind fun a11 => (ald 0 h a11 0).bind fun x12 => (if ¬ x12 = 0 then (if ¬ v6 = (-1) then Mod_finds_j129 v0 v1 v2 v3 v4 v5 v6 v7 v8 0 h else Mod_finds_j129 v0 v1 v2 v3 v4 v5 v6 v7 v8 1 h) else (if ¬ v6 = (-1) then Mod_finds_j112 v0 v1 v2 v3 v4 v5 v6 v7 v8 v0 v5 0 h else Mod_finds_j112 v0 v1 v2 v3 v4 v5 v6 v7 v8 v0 v5 1 h))
theorem Mod_finds_j89_J {E : JE} {l : Launch} {G : GX} {r : Option Value} {h' : AHeap} (ok : JOK E l G kMod_finds 0 0 r h') (v0 : Nat) (v1 : Int32) (v2 : Int32) (v3 : Int32) (v4 : Int32) (v5 : Int32) (v6 : Int32) (v7 : Int32) (v8 : Int32) (h : AHeap) {Y : (Int32 × Int32 × Int32 × Int32 × AHeap) ⊕ ((Int32 × Int32 × Int32 × Int32 × AHeap)) → Prop} (k1 : ∀ s' : Int32 × Int32 × Int32 × Int32 × AHeap, Y (.inl s') → JW E kMod_finds 15 [some (.ref v0), some (.int v1), some (.int s'.1), some (.int s'.2.1), some (.int s'.2.2.1), some (.int s'.2.2.2.1), none, none, none, none] [] s'.2.2.2.2 0 0) (kx174 : ∀ q : Int32 × Int32 × Int32 × Int32 × AHeap, Y (.inr q) → JW E kMod_finds 174 [some (.ref v0), some (.int v1), some (.int q.1), some (.int q.2.1), some (.int q.2.2.1), some (.int q.2.2.2.1), none, none, none, none] [] q.2.2.2.2 0 0) : J E kMod_finds (Mod_finds_j89 v0 v1 v2 v3 v4 v5 v6 v7 v8 h) Y 89 [some (.ref v0), some (.int v1), some (.int v2), some (.int v3), some (.int v4), some (.int v5), some (.int v6), some (.int v7), some (.int v8), none] [] h 0 0 := by
  unfold Mod_finds_j89
  refine J_aload_n (pc' := 90) ok (dOf dX11_finds 50 rfl) rfl rfl rfl ?_
  refine J_getR (ci := 11) (kf := 2) (C := RX11) (T := TX11) (N := 29) (pc' := 93) ok (dOf dX11_finds 51 rfl) rfl (by decide) rfl (by decide) win_11 wfl_X11_13 (fun a11 => ?_)
  refine J_iconst (v := 0) (pc' := 94) ok (dOf dX11_finds 52 rfl) rfl (by decide) ?_
  refine J_iald (pc' := 95) ok (dOf dX11_finds 53 rfl) rfl (fun x12 => ?_)
  refine J_if_ne (tgt := 118) (pc' := 98) ok (dOf dX11_finds 54 rfl) rfl (by decide) ?_ ?_
  · refine J_iload (pc' := 120) ok (dOf dX11_finds 65 rfl) rfl rfl ?_
    refine J_iconst (v := (-1)) (pc' := 121) ok (dOf dX11_finds 66 rfl) rfl (by decide) ?_
    refine J_icmp_ne (tgt := 128) (pc' := 124) ok (dOf dX11_finds 67 rfl) rfl (by decide) ?_ ?_
    · refine J_iconst (v := 0) (pc' := 129) ok (dOf dX11_finds 70 rfl) rfl (by decide) ?_
      exact Mod_finds_j129_J ok v0 v1 v2 v3 v4 v5 v6 v7 v8 0 h k1 kx174
    · refine J_iconst (v := 1) (pc' := 125) ok (dOf dX11_finds 68 rfl) rfl (by decide) ?_
      refine J_goto (tgt := 129) ok (dOf dX11_finds 69 rfl) (by decide) ?_
      exact Mod_finds_j129_J ok v0 v1 v2 v3 v4 v5 v6 v7 v8 1 h k1 kx174
  · refine J_aload_n (pc' := 99) ok (dOf dX11_finds 55 rfl) rfl rfl rfl ?_
    refine J_iload (pc' := 101) ok (dOf dX11_finds 56 rfl) rfl rfl ?_
    refine J_iload (pc' := 103) ok (dOf dX11_finds 57 rfl) rfl rfl ?_
    refine J_iconst (v := (-1)) (pc' := 104) ok (dOf dX11_finds 58 rfl) rfl (by decide) ?_
    refine J_icmp_ne (tgt := 111) (pc' := 107) ok (dOf dX11_finds 59 rfl) rfl (by decide) ?_ ?_
    · refine J_iconst (v := 0) (pc' := 112) ok (dOf dX11_finds 62 rfl) rfl (by decide) ?_
      exact Mod_finds_j112_J ok v0 v1 v2 v3 v4 v5 v6 v7 v8 v0 v5 0 h k1 kx174
    · refine J_iconst (v := 1) (pc' := 108) ok (dOf dX11_finds 60 rfl) rfl (by decide) ?_
      refine J_goto (tgt := 112) ok (dOf dX11_finds 61 rfl) (by decide) ?_
      exact Mod_finds_j112_J ok v0 v1 v2 v3 v4 v5 v6 v7 v8 v0 v5 1 h k1 kx174
def Mod_finds_j73 (v0 : Nat) (v1 : Int32) (v2 : Int32) (v3 : Int32) (v4 : Int32) (v5 : Int32) (v6 : Int32) (v7 : Int32) (t0 : Int32) (h : AHeap) : Option ((Int32 × Int32 × Int32 × Int32 × AHeap) ⊕ ((Int32 × Int32 × Int32 × Int32 × AHeap))) :=
  (if v6 = (-1) then Mod_finds_j89 v0 v1 v2 v3 v4 v5 v6 v7 t0 h else (if 0 < t0 then Mod_finds_j89 v0 v1 v2 v3 v4 v5 v6 v7 t0 h else Mod_finds_j168 v0 v1 v2 v3 v4 v5 v6 v7 t0 h))
theorem Mod_finds_j73_J {E : JE} {l : Launch} {G : GX} {r : Option Value} {h' : AHeap} (ok : JOK E l G kMod_finds 0 0 r h') (v0 : Nat) (v1 : Int32) (v2 : Int32) (v3 : Int32) (v4 : Int32) (v5 : Int32) (v6 : Int32) (v7 : Int32) (t0 : Int32) (h : AHeap) {Y : (Int32 × Int32 × Int32 × Int32 × AHeap) ⊕ ((Int32 × Int32 × Int32 × Int32 × AHeap)) → Prop} (k1 : ∀ s' : Int32 × Int32 × Int32 × Int32 × AHeap, Y (.inl s') → JW E kMod_finds 15 [some (.ref v0), some (.int v1), some (.int s'.1), some (.int s'.2.1), some (.int s'.2.2.1), some (.int s'.2.2.2.1), none, none, none, none] [] s'.2.2.2.2 0 0) (kx174 : ∀ q : Int32 × Int32 × Int32 × Int32 × AHeap, Y (.inr q) → JW E kMod_finds 174 [some (.ref v0), some (.int v1), some (.int q.1), some (.int q.2.1), some (.int q.2.2.1), some (.int q.2.2.2.1), none, none, none, none] [] q.2.2.2.2 0 0) : J E kMod_finds (Mod_finds_j73 v0 v1 v2 v3 v4 v5 v6 v7 t0 h) Y 73 [some (.ref v0), some (.int v1), some (.int v2), some (.int v3), some (.int v4), some (.int v5), some (.int v6), some (.int v7), none, none] [.int t0] h 0 0 := by
  unfold Mod_finds_j73
  refine J_istore (ls' := [some (.ref v0), some (.int v1), some (.int v2), some (.int v3), some (.int v4), some (.int v5), some (.int v6), some (.int v7), some (.int t0), none]) (pc' := 75) ok (dOf dX11_finds 43 rfl) rfl (Nat.le_of_ble_eq_true rfl) rfl rfl ?_
  refine J_iload (pc' := 77) ok (dOf dX11_finds 44 rfl) rfl rfl ?_
  refine J_iconst (v := (-1)) (pc' := 78) ok (dOf dX11_finds 45 rfl) rfl (by decide) ?_
  refine J_icmp_eq (tgt := 89) (pc' := 81) ok (dOf dX11_finds 46 rfl) rfl (by decide) ?_ ?_
  · exact Mod_finds_j89_J ok v0 v1 v2 v3 v4 v5 v6 v7 t0 h k1 kx174
  · refine J_iload (pc' := 83) ok (dOf dX11_finds 47 rfl) rfl rfl ?_
    refine J_if_gt (tgt := 89) (pc' := 86) ok (dOf dX11_finds 48 rfl) rfl (by decide) ?_ ?_
    · exact Mod_finds_j89_J ok v0 v1 v2 v3 v4 v5 v6 v7 t0 h k1 kx174
    · refine J_goto (tgt := 168) ok (dOf dX11_finds 49 rfl) (by decide) ?_
      exact Mod_finds_j168_J ok v0 v1 v2 v3 v4 v5 v6 v7 t0 h k1 kx174
def Mod_finds_b15 (v0 : Nat) (v1 : Int32) (s : Int32 × Int32 × Int32 × Int32 × AHeap) : Option ((Int32 × Int32 × Int32 × Int32 × AHeap) ⊕ ((Int32 × Int32 × Int32 × Int32 × AHeap))) :=
  (gfR s.2.2.2.2 v0 11 5).bind fun a2 => (ald 0 s.2.2.2.2 a2 2).bind fun x3 => (if x3 ≤ s.2.2.2.1 then some (Sum.inr (s.1, s.2.1, s.2.2.1, s.2.2.2.1, s.2.2.2.2)) else (chk s.2.2.2.2 v0 11).bind fun _ => bnd2 (Mod_solves v0 s.2.2.2.1 v1 s.2.2.2.2) fun x5 h4 => (gfI h4 v0 11 21).bind fun x6 => (if ¬ x5 = (-1) then (gfR h4 v0 11 5).bind fun a7 => (ald 0 h4 a7 (47 + s.2.2.2.1)).bind fun x8 => (chk h4 v0 11).bind fun _ => bnd2 (Mod_reachBy v0 s.2.2.2.1 v1 h4) fun x10 h9 => Mod_finds_j73 v0 v1 s.1 s.2.1 s.2.2.1 s.2.2.2.1 x5 x6 (x8 * (x5 - x10)) h9 else Mod_finds_j73 v0 v1 s.1 s.2.1 s.2.2.1 s.2.2.2.1 x5 x6 x6 h4))
theorem Mod_finds_b15_J {E : JE} {l : Launch} {G : GX} {r : Option Value} {h' : AHeap} (ok : JOK E l G kMod_finds 0 0 r h') (v0 : Nat) (v1 : Int32) {Y : (Int32 × Int32 × Int32 × Int32 × AHeap) ⊕ ((Int32 × Int32 × Int32 × Int32 × AHeap)) → Prop} (k1 : ∀ s' : Int32 × Int32 × Int32 × Int32 × AHeap, Y (.inl s') → JW E kMod_finds 15 [some (.ref v0), some (.int v1), some (.int s'.1), some (.int s'.2.1), some (.int s'.2.2.1), some (.int s'.2.2.2.1), none, none, none, none] [] s'.2.2.2.2 0 0) (kx174 : ∀ q : Int32 × Int32 × Int32 × Int32 × AHeap, Y (.inr q) → JW E kMod_finds 174 [some (.ref v0), some (.int v1), some (.int q.1), some (.int q.2.1), some (.int q.2.2.1), some (.int q.2.2.2.1), none, none, none, none] [] q.2.2.2.2 0 0) (s : Int32 × Int32 × Int32 × Int32 × AHeap) : J E kMod_finds (Mod_finds_b15 v0 v1 s) Y 15 [some (.ref v0), some (.int v1), some (.int s.1), some (.int s.2.1), some (.int s.2.2.1), some (.int s.2.2.2.1), none, none, none, none] [] s.2.2.2.2 0 0 := by
  unfold Mod_finds_b15
  refine J_iload (pc' := 17) ok (dOf dX11_finds 11 rfl) rfl rfl ?_
  refine J_aload_n (pc' := 18) ok (dOf dX11_finds 12 rfl) rfl rfl rfl ?_
  refine J_getR (ci := 11) (kf := 5) (C := RX11) (T := TX11) (N := 29) (pc' := 21) ok (dOf dX11_finds 13 rfl) rfl (by decide) rfl (by decide) win_11 wfl_X11_22 (fun a2 => ?_)
  refine J_iconst (v := 2) (pc' := 22) ok (dOf dX11_finds 14 rfl) rfl (by decide) ?_
  refine J_iald (pc' := 23) ok (dOf dX11_finds 15 rfl) rfl (fun x3 => ?_)
  refine J_icmp_ge (tgt := 174) (pc' := 26) ok (dOf dX11_finds 16 rfl) rfl (by decide) ?_ ?_
  · exact J_fin (kx174 (s.1, s.2.1, s.2.2.1, s.2.2.2.1, s.2.2.2.2))
  · refine J_aload_n (pc' := 27) ok (dOf dX11_finds 17 rfl) rfl rfl rfl ?_
    refine J_iload (pc' := 29) ok (dOf dX11_finds 18 rfl) rfl rfl ?_
    refine J_iload_n (pc' := 30) ok (dOf dX11_finds 19 rfl) rfl rfl rfl ?_
    refine J_callVi (k2 := kMod_solves) (ci := 11) (T := TX11) (N := 29) (as := [.int s.2.2.2.1, .int v1]) (pc' := 33) ok (dOf dX11_finds 20 rfl) rfl (cw_Mod_solves (by decide) (by decide)) wml_X11_264 winst_X11_solves wsel_X11_solves rfl ⟨Nat.le_refl 0, Nat.le_refl 0⟩ (Nat.le_of_ble_eq_true rfl) rfl (fun _ _ hf => t_Mod_solves hf) (fun x5 h4 => ?_)
    refine J_istore (ls' := [some (.ref v0), some (.int v1), some (.int s.1), some (.int s.2.1), some (.int s.2.2.1), some (.int s.2.2.2.1), some (.int x5), none, none, none]) (pc' := 35) ok (dOf dX11_finds 21 rfl) rfl (Nat.le_of_ble_eq_true rfl) rfl rfl ?_
    refine J_aload_n (pc' := 36) ok (dOf dX11_finds 22 rfl) rfl rfl rfl ?_
    refine J_getI (ci := 11) (kf := 21) (C := RX11) (T := TX11) (N := 29) (pc' := 39) ok (dOf dX11_finds 23 rfl) rfl (by decide) rfl (by decide) win_11 wfl_X11_215 (fun x6 => ?_)
    refine J_istore (ls' := [some (.ref v0), some (.int v1), some (.int s.1), some (.int s.2.1), some (.int s.2.2.1), some (.int s.2.2.2.1), some (.int x5), some (.int x6), none, none]) (pc' := 41) ok (dOf dX11_finds 24 rfl) rfl (Nat.le_of_ble_eq_true rfl) rfl rfl ?_
    refine J_iload (pc' := 43) ok (dOf dX11_finds 25 rfl) rfl rfl ?_
    refine J_iconst (v := (-1)) (pc' := 44) ok (dOf dX11_finds 26 rfl) rfl (by decide) ?_
    refine J_icmp_ne (tgt := 52) (pc' := 47) ok (dOf dX11_finds 27 rfl) rfl (by decide) ?_ ?_
    · refine J_aload_n (pc' := 53) ok (dOf dX11_finds 30 rfl) rfl rfl rfl ?_
      refine J_getR (ci := 11) (kf := 5) (C := RX11) (T := TX11) (N := 29) (pc' := 56) ok (dOf dX11_finds 31 rfl) rfl (by decide) rfl (by decide) win_11 wfl_X11_22 (fun a7 => ?_)
      refine J_bipush (v := 47) (pc' := 58) ok (dOf dX11_finds 32 rfl) rfl (by decide) ?_
      refine J_iload (pc' := 60) ok (dOf dX11_finds 33 rfl) rfl rfl ?_
      refine J_iadd (pc' := 61) ok (dOf dX11_finds 34 rfl) rfl ?_
      refine J_iald (pc' := 62) ok (dOf dX11_finds 35 rfl) rfl (fun x8 => ?_)
      refine J_iload (pc' := 64) ok (dOf dX11_finds 36 rfl) rfl rfl ?_
      refine J_aload_n (pc' := 65) ok (dOf dX11_finds 37 rfl) rfl rfl rfl ?_
      refine J_iload (pc' := 67) ok (dOf dX11_finds 38 rfl) rfl rfl ?_
      refine J_iload_n (pc' := 68) ok (dOf dX11_finds 39 rfl) rfl rfl rfl ?_
      refine J_callVi (k2 := kMod_reachBy) (ci := 11) (T := TX11) (N := 29) (as := [.int s.2.2.2.1, .int v1]) (pc' := 71) ok (dOf dX11_finds 40 rfl) rfl (cw_Mod_reachBy (by decide) (by decide)) wml_X11_261 winst_X11_reachBy wsel_X11_reachBy rfl ⟨Nat.le_refl 0, Nat.le_refl 0⟩ (Nat.le_of_ble_eq_true rfl) rfl (fun _ _ hf => t_Mod_reachBy hf) (fun x10 h9 => ?_)
      refine J_isub (pc' := 72) ok (dOf dX11_finds 41 rfl) rfl ?_
      refine J_imul (pc' := 73) ok (dOf dX11_finds 42 rfl) rfl ?_
      exact Mod_finds_j73_J ok v0 v1 s.1 s.2.1 s.2.2.1 s.2.2.2.1 x5 x6 (x8 * (x5 - x10)) h9 k1 kx174
    · refine J_iload (pc' := 49) ok (dOf dX11_finds 28 rfl) rfl rfl ?_
      refine J_goto (tgt := 73) ok (dOf dX11_finds 29 rfl) (by decide) ?_
      exact Mod_finds_j73_J ok v0 v1 s.1 s.2.1 s.2.2.1 s.2.2.2.1 x5 x6 x6 h4 k1 kx174
def Mod_finds_j174 (v0 : Nat) (v1 : Int32) (v2 : Int32) (v3 : Int32) (v4 : Int32) (v5 : Int32) (h : AHeap) : Option (Unit × AHeap) :=
  (if ¬ v2 = (-1) then (chk h v0 11).bind fun _ => bnd2 (Mod_solves v0 v2 v1 h) fun x15 h14 => (chk h14 v0 11).bind fun _ => bnd2 (Mod_laysNew v0 v2 v3 h14) fun _ h16 => some ((), h16) else some ((), h))
theorem Mod_finds_j174_J {E : JE} {l : Launch} {G : GX} {h' : AHeap} (ok : JOK E l G kMod_finds 0 0 none h') (v0 : Nat) (v1 : Int32) (v2 : Int32) (v3 : Int32) (v4 : Int32) (v5 : Int32) (h : AHeap) : J E kMod_finds (Mod_finds_j174 v0 v1 v2 v3 v4 v5 h) (fun z => z = ((), h')) 174 [some (.ref v0), some (.int v1), some (.int v2), some (.int v3), some (.int v4), some (.int v5), none, none, none, none] [] h 0 0 := by
  unfold Mod_finds_j174
  refine J_iload_n (pc' := 175) ok (dOf dX11_finds 93 rfl) rfl rfl rfl ?_
  refine J_iconst (v := (-1)) (pc' := 176) ok (dOf dX11_finds 94 rfl) rfl (by decide) ?_
  refine J_icmp_ne (tgt := 180) (pc' := 179) ok (dOf dX11_finds 95 rfl) rfl (by decide) ?_ ?_
  · refine J_aload_n (pc' := 181) ok (dOf dX11_finds 97 rfl) rfl rfl rfl ?_
    refine J_iload_n (pc' := 182) ok (dOf dX11_finds 98 rfl) rfl rfl rfl ?_
    refine J_iload_n (pc' := 183) ok (dOf dX11_finds 99 rfl) rfl rfl rfl ?_
    refine J_callVi (k2 := kMod_solves) (ci := 11) (T := TX11) (N := 29) (as := [.int v2, .int v1]) (pc' := 186) ok (dOf dX11_finds 100 rfl) rfl (cw_Mod_solves (by decide) (by decide)) wml_X11_264 winst_X11_solves wsel_X11_solves rfl ⟨Nat.le_refl 0, Nat.le_refl 0⟩ (Nat.le_of_ble_eq_true rfl) rfl (fun _ _ hf => t_Mod_solves hf) (fun x15 h14 => ?_)
    refine J_istore (ls' := [some (.ref v0), some (.int v1), some (.int v2), some (.int v3), some (.int v4), some (.int x15), none, none, none, none]) (pc' := 188) ok (dOf dX11_finds 101 rfl) rfl (Nat.le_of_ble_eq_true rfl) rfl rfl ?_
    refine J_aload_n (pc' := 189) ok (dOf dX11_finds 102 rfl) rfl rfl rfl ?_
    refine J_iload_n (pc' := 190) ok (dOf dX11_finds 103 rfl) rfl rfl rfl ?_
    refine J_iload_n (pc' := 191) ok (dOf dX11_finds 104 rfl) rfl rfl rfl ?_
    refine J_callVv (k2 := kMod_laysNew) (ci := 11) (T := TX11) (N := 29) (as := [.int v2, .int v3]) (pc' := 194) ok (dOf dX11_finds 105 rfl) rfl (cw_Mod_laysNew (by decide) (by decide)) wml_X11_270 winst_X11_laysNew wsel_X11_laysNew rfl ⟨Nat.le_refl 0, Nat.le_refl 0⟩ (Nat.le_of_ble_eq_true rfl) rfl (fun _ _ hf => t_Mod_laysNew hf) (fun _ h16 => ?_)
    exact J_vreturn ok (dOf dX11_finds 106 rfl) rfl (Eq.refl 0) (Nat.le_refl 0)
  · exact J_vreturn ok (dOf dX11_finds 96 rfl) rfl (Eq.refl 0) (Nat.le_refl 0)
def Mod_finds (v0 : Nat) (v1 : Int32) (h : AHeap) : Option (Unit × AHeap) :=
  (pfV h v0 11 27 (.int 0)).bind fun h1 => (iter (Mod_finds_b15 v0 v1) Lmax ((-1), 0, 0, 0, h1)).bind (fun (q15 : Int32 × Int32 × Int32 × Int32 × AHeap) => Mod_finds_j174 v0 v1 q15.1 q15.2.1 q15.2.2.1 q15.2.2.2.1 q15.2.2.2.2)
theorem t_Mod_finds {l : Launch} {G : GX} {v0 : Nat} {v1 : Int32} {h : AHeap} {h1 : AHeap} (hf : Mod_finds v0 v1 h = some ((), h1)) : CT l G kMod_finds 0 0 [.ref v0, .int v1] h none h1 := by
  refine CT_of (ls := [some (.ref v0), some (.int v1), none, none, none, none, none, none, none, none]) (Z := fun z => z = ((), h1)) (by decide +kernel) (Nat.le_of_ble_eq_true rfl) hf rfl ⟨rfl, rfl, trivial⟩ (fun E ok => ?_)
  unfold Mod_finds
  refine J_aload_n (pc' := 1) ok (dOf dX11_finds 0 rfl) rfl rfl rfl ?_
  refine J_iconst (v := 0) (pc' := 2) ok (dOf dX11_finds 1 rfl) rfl (by decide) ?_
  refine J_putI (ci := 11) (kf := 27) (C := RX11) (T := TX11) (N := 29) (pc' := 5) ok tyX11 (dOf dX11_finds 2 rfl) rfl rfl (by decide) win_11 tyX11_ok nmX11 rfl rfl wfl_X11_267 (fun h1 _ => ?_)
  refine J_iconst (v := (-1)) (pc' := 6) ok (dOf dX11_finds 3 rfl) rfl (by decide) ?_
  refine J_istore_n (ls' := [some (.ref v0), some (.int v1), some (.int (-1)), none, none, none, none, none, none, none]) (pc' := 7) ok (dOf dX11_finds 4 rfl) rfl rfl (Nat.le_of_ble_eq_true rfl) rfl rfl ?_
  refine J_iconst (v := 0) (pc' := 8) ok (dOf dX11_finds 5 rfl) rfl (by decide) ?_
  refine J_istore_n (ls' := [some (.ref v0), some (.int v1), some (.int (-1)), some (.int 0), none, none, none, none, none, none]) (pc' := 9) ok (dOf dX11_finds 6 rfl) rfl rfl (Nat.le_of_ble_eq_true rfl) rfl rfl ?_
  refine J_iconst (v := 0) (pc' := 10) ok (dOf dX11_finds 7 rfl) rfl (by decide) ?_
  refine J_istore (ls' := [some (.ref v0), some (.int v1), some (.int (-1)), some (.int 0), some (.int 0), none, none, none, none, none]) (pc' := 12) ok (dOf dX11_finds 8 rfl) rfl (Nat.le_of_ble_eq_true rfl) rfl rfl ?_
  refine J_iconst (v := 0) (pc' := 13) ok (dOf dX11_finds 9 rfl) rfl (by decide) ?_
  refine J_istore (ls' := [some (.ref v0), some (.int v1), some (.int (-1)), some (.int 0), some (.int 0), some (.int 0), none, none, none, none]) (pc' := 15) ok (dOf dX11_finds 10 rfl) rfl (Nat.le_of_ble_eq_true rfl) rfl rfl ?_
  refine J_iter (lf := fun z15 => [some (.ref v0), some (.int v1), some (.int z15.1), some (.int z15.2.1), some (.int z15.2.2.1), some (.int z15.2.2.2.1), none, none, none, none]) (sf := fun _ => []) (hf := fun z15 => z15.2.2.2.2) (px := (fun (q15 : Int32 × Int32 × Int32 × Int32 × AHeap) => 174)) (lx := (fun (q15 : Int32 × Int32 × Int32 × Int32 × AHeap) => [some (.ref v0), some (.int v1), some (.int q15.1), some (.int q15.2.1), some (.int q15.2.2.1), some (.int q15.2.2.2.1), none, none, none, none])) (sx := (fun (q15 : Int32 × Int32 × Int32 × Int32 × AHeap) => [])) (hx := (fun (q15 : Int32 × Int32 × Int32 × Int32 × AHeap) => q15.2.2.2.2)) (fun Y2 z15 m1 m2 => Mod_finds_b15_J ok v0 v1 m1 m2 z15) (fun q15 => ?_) Lmax _
  exact Mod_finds_j174_J ok v0 v1 q15.1 q15.2.1 q15.2.2.1 q15.2.2.2.1 q15.2.2.2.2
