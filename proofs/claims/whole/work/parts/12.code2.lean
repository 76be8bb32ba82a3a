-- X2_move
abbrev kCuts_move : Cd := (yX2_move, cX2_move, 3, none, 1, 45)
theorem dX2_move : dcheck cX2_move [(0, .iload_n 1, 1), (1, .iload_n 2, 1), (2, .if_icmp .ne 4, 3), (5, .return_, 1), (6, .aload_n 0, 1), (7, .getfield 15, 3), (10, .iload_n 2, 1), (11, .aload_n 0, 1), (12, .getfield 15, 3), (15, .iload_n 1, 1), (16, .iaload, 1), (17, .iastore, 1), (18, .aload_n 0, 1), (19, .getfield 19, 3), (22, .iload_n 2, 1), (23, .aload_n 0, 1), (24, .getfield 19, 3), (27, .iload_n 1, 1), (28, .iaload, 1), (29, .iastore, 1), (30, .aload_n 0, 1), (31, .getfield 22, 3), (34, .iload_n 2, 1), (35, .aload_n 0, 1), (36, .getfield 22, 3), (39, .iload_n 1, 1), (40, .iaload, 1), (41, .iastore, 1), (42, .aload_n 0, 1), (43, .getfield 25, 3), (46, .iload_n 1, 1), (47, .iconst 4, 1), (48, .imul, 1), (49, .aload_n 0, 1), (50, .getfield 25, 3), (53, .iload_n 2, 1), (54, .iconst 4, 1), (55, .imul, 1), (56, .iconst 4, 1), (57, .invokestatic 40, 3), (60, .aload_n 0, 1), (61, .getfield 28, 3), (64, .iload_n 1, 1), (65, .bipush 6, 2), (67, .imul, 1), (68, .aload_n 0, 1), (69, .getfield 28, 3), (72, .iload_n 2, 1), (73, .bipush 6, 2), (75, .imul, 1), (76, .bipush 6, 2), (78, .invokestatic 40, 3), (81, .return_, 1)] = true := by decide +kernel
theorem cw_Cuts_move {k : Cd} (h1 : kCuts_move.2.2.2.2.1 + 1 ≤ k.2.2.2.2.1) (h2 : 8 + (kCuts_move.2.2.1 + 11) + kCuts_move.2.2.2.2.2 ≤ k.2.2.2.2.2) : Cw k kCuts_move 2 := ⟨wcode_X2_move, wini_SplitProgram_Cuts, ⟨by decide, by decide, by decide +kernel⟩, h1, h2⟩
def Cuts_move (v0 : Nat) (v1 : Int32) (v2 : Int32) (h : AHeap) : Option (Unit × AHeap) :=
  (if ¬ v1 = v2 then (gfR h v0 2 2).bind fun a1 => (gfR h v0 2 2).bind fun a2 => (ald 0 h a2 v1).bind fun x3 => (ast 0 h a1 v2 x3).bind fun h4 => (gfR h4 v0 2 3).bind fun a5 => (gfR h4 v0 2 3).bind fun a6 => (ald 0 h4 a6 v1).bind fun x7 => (ast 0 h4 a5 v2 x7).bind fun h8 => (gfR h8 v0 2 4).bind fun a9 => (gfR h8 v0 2 4).bind fun a10 => (ald 0 h8 a10 v1).bind fun x11 => (ast 0 h8 a9 v2 x11).bind fun h12 => (gfR h12 v0 2 5).bind fun a13 => (gfR h12 v0 2 5).bind fun a14 => (acp h12 a13 (v1 * 4) a14 (v2 * 4) 4).bind fun h15 => (gfR h15 v0 2 6).bind fun a16 => (gfR h15 v0 2 6).bind fun a17 => (acp h15 a16 (v1 * 6) a17 (v2 * 6) 6).bind fun h18 => some ((), h18) else some ((), h))
theorem t_Cuts_move {l : Launch} {G : GX} {v0 : Nat} {v1 : Int32} {v2 : Int32} {h : AHeap} {h1 : AHeap} (hf : Cuts_move v0 v1 v2 h = some ((), h1)) : CT l G kCuts_move 0 0 [.ref v0, .int v1, .int v2] h none h1 := by
  refine CT_of (ls := [some (.ref v0), some (.int v1), some (.int v2)]) (Z := fun z => z = ((), h1)) (by decide +kernel) (Nat.le_of_ble_eq_true rfl) hf rfl ⟨rfl, rfl, rfl, trivial⟩ (fun E ok => ?_)
  unfold Cuts_move
  refine J_iload_n (pc' := 1) ok (dOf dX2_move 0 rfl) rfl rfl rfl ?_
  refine J_iload_n (pc' := 2) ok (dOf dX2_move 1 rfl) rfl rfl rfl ?_
  refine J_icmp_ne (tgt := 6) (pc' := 5) ok (dOf dX2_move 2 rfl) rfl (by decide) ?_ ?_
  · refine J_aload_n (pc' := 7) ok (dOf dX2_move 4 rfl) rfl rfl rfl ?_
    refine J_getR (ci := 2) (kf := 2) (C := RX2) (T := TX2) (N := 7) (pc' := 10) ok (dOf dX2_move 5 rfl) rfl (by decide) rfl (by decide) win_2 wfl_X2_15 (fun a1 => ?_)
    refine J_iload_n (pc' := 11) ok (dOf dX2_move 6 rfl) rfl rfl rfl ?_
    refine J_aload_n (pc' := 12) ok (dOf dX2_move 7 rfl) rfl rfl rfl ?_
    refine J_getR (ci := 2) (kf := 2) (C := RX2) (T := TX2) (N := 7) (pc' := 15) ok (dOf dX2_move 8 rfl) rfl (by decide) rfl (by decide) win_2 wfl_X2_15 (fun a2 => ?_)
    refine J_iload_n (pc' := 16) ok (dOf dX2_move 9 rfl) rfl rfl rfl ?_
    refine J_iald (pc' := 17) ok (dOf dX2_move 10 rfl) rfl (fun x3 => ?_)
    refine J_iast (pc' := 18) ok (dOf dX2_move 11 rfl) rfl (fun h4 _ => ?_)
    refine J_aload_n (pc' := 19) ok (dOf dX2_move 12 rfl) rfl rfl rfl ?_
    refine J_getR (ci := 2) (kf := 3) (C := RX2) (T := TX2) (N := 7) (pc' := 22) ok (dOf dX2_move 13 rfl) rfl (by decide) rfl (by decide) win_2 wfl_X2_19 (fun a5 => ?_)
    refine J_iload_n (pc' := 23) ok (dOf dX2_move 14 rfl) rfl rfl rfl ?_
    refine J_aload_n (pc' := 24) ok (dOf dX2_move 15 rfl) rfl rfl rfl ?_
    refine J_getR (ci := 2) (kf := 3) (C := RX2) (T := TX2) (N := 7) (pc' := 27) ok (dOf dX2_move 16 rfl) rfl (by decide) rfl (by decide) win_2 wfl_X2_19 (fun a6 => ?_)
    refine J_iload_n (pc' := 28) ok (dOf dX2_move 17 rfl) rfl rfl rfl ?_
    refine J_iald (pc' := 29) ok (dOf dX2_move 18 rfl) rfl (fun x7 => ?_)
    refine J_iast (pc' := 30) ok (dOf dX2_move 19 rfl) rfl (fun h8 _ => ?_)
    refine J_aload_n (pc' := 31) ok (dOf dX2_move 20 rfl) rfl rfl rfl ?_
    refine J_getR (ci := 2) (kf := 4) (C := RX2) (T := TX2) (N := 7) (pc' := 34) ok (dOf dX2_move 21 rfl) rfl (by decide) rfl (by decide) win_2 wfl_X2_22 (fun a9 => ?_)
    refine J_iload_n (pc' := 35) ok (dOf dX2_move 22 rfl) rfl rfl rfl ?_
    refine J_aload_n (pc' := 36) ok (dOf dX2_move 23 rfl) rfl rfl rfl ?_
    refine J_getR (ci := 2) (kf := 4) (C := RX2) (T := TX2) (N := 7) (pc' := 39) ok (dOf dX2_move 24 rfl) rfl (by decide) rfl (by decide) win_2 wfl_X2_22 (fun a10 => ?_)
    refine J_iload_n (pc' := 40) ok (dOf dX2_move 25 rfl) rfl rfl rfl ?_
    refine J_iald (pc' := 41) ok (dOf dX2_move 26 rfl) rfl (fun x11 => ?_)
    refine J_iast (pc' := 42) ok (dOf dX2_move 27 rfl) rfl (fun h12 _ => ?_)
    refine J_aload_n (pc' := 43) ok (dOf dX2_move 28 rfl) rfl rfl rfl ?_
    refine J_getR (ci := 2) (kf := 5) (C := RX2) (T := TX2) (N := 7) (pc' := 46) ok (dOf dX2_move 29 rfl) rfl (by decide) rfl (by decide) win_2 wfl_X2_25 (fun a13 => ?_)
    refine J_iload_n (pc' := 47) ok (dOf dX2_move 30 rfl) rfl rfl rfl ?_
    refine J_iconst (v := 4) (pc' := 48) ok (dOf dX2_move 31 rfl) rfl (by decide) ?_
    refine J_imul (pc' := 49) ok (dOf dX2_move 32 rfl) rfl ?_
    refine J_aload_n (pc' := 50) ok (dOf dX2_move 33 rfl) rfl rfl rfl ?_
    refine J_getR (ci := 2) (kf := 5) (C := RX2) (T := TX2) (N := 7) (pc' := 53) ok (dOf dX2_move 34 rfl) rfl (by decide) rfl (by decide) win_2 wfl_X2_25 (fun a14 => ?_)
    refine J_iload_n (pc' := 54) ok (dOf dX2_move 35 rfl) rfl rfl rfl ?_
    refine J_iconst (v := 4) (pc' := 55) ok (dOf dX2_move 36 rfl) rfl (by decide) ?_
    refine J_imul (pc' := 56) ok (dOf dX2_move 37 rfl) rfl ?_
    refine J_iconst (v := 4) (pc' := 57) ok (dOf dX2_move 38 rfl) rfl (by decide) ?_
    refine J_acp (pc' := 60) ok (dOf dX2_move 39 rfl) rfl wml_X2_40 wnat_java_lang_System_arraycopy wstat_java_lang_System_arraycopy wini_java_lang_System (Nat.le_of_ble_eq_true rfl) (Nat.le_of_ble_eq_true rfl) (fun h15 _ => ?_)
    refine J_aload_n (pc' := 61) ok (dOf dX2_move 40 rfl) rfl rfl rfl ?_
    refine J_getR (ci := 2) (kf := 6) (C := RX2) (T := TX2) (N := 7) (pc' := 64) ok (dOf dX2_move 41 rfl) rfl (by decide) rfl (by decide) win_2 wfl_X2_28 (fun a16 => ?_)
    refine J_iload_n (pc' := 65) ok (dOf dX2_move 42 rfl) rfl rfl rfl ?_
    refine J_bipush (v := 6) (pc' := 67) ok (dOf dX2_move 43 rfl) rfl (by decide) ?_
    refine J_imul (pc' := 68) ok (dOf dX2_move 44 rfl) rfl ?_
    refine J_aload_n (pc' := 69) ok (dOf dX2_move 45 rfl) rfl rfl rfl ?_
    refine J_getR (ci := 2) (kf := 6) (C := RX2) (T := TX2) (N := 7) (pc' := 72) ok (dOf dX2_move 46 rfl) rfl (by decide) rfl (by decide) win_2 wfl_X2_28 (fun a17 => ?_)
    refine J_iload_n (pc' := 73) ok (dOf dX2_move 47 rfl) rfl rfl rfl ?_
    refine J_bipush (v := 6) (pc' := 75) ok (dOf dX2_move 48 rfl) rfl (by decide) ?_
    refine J_imul (pc' := 76) ok (dOf dX2_move 49 rfl) rfl ?_
    refine J_bipush (v := 6) (pc' := 78) ok (dOf dX2_move 50 rfl) rfl (by decide) ?_
    refine J_acp (pc' := 81) ok (dOf dX2_move 51 rfl) rfl wml_X2_40 wnat_java_lang_System_arraycopy wstat_java_lang_System_arraycopy wini_java_lang_System (Nat.le_of_ble_eq_true rfl) (Nat.le_of_ble_eq_true rfl) (fun h18 _ => ?_)
    exact J_vreturn ok (dOf dX2_move 52 rfl) rfl (Eq.refl 0) (Nat.le_refl 0)
  · exact J_vreturn ok (dOf dX2_move 3 rfl) rfl (Eq.refl 0) (Nat.le_refl 0)
-- X2_keepHolding
abbrev kCuts_keepHolding : Cd := (yX2_keepHolding, cX2_keepHolding, 4, none, 2, 67)
theorem dX2_keepHolding : dcheck cX2_keepHolding [(0, .iconst 0, 1), (1, .istore_n 2, 1), (2, .iconst 0, 1), (3, .istore_n 3, 1), (4, .iload_n 3, 1), (5, .aload_n 0, 1), (6, .getfield 31, 3), (9, .if_icmp .ge 34, 3), (12, .aload_n 0, 1), (13, .aload_n 1, 1), (14, .iload_n 3, 1), (15, .invokevirtual 46, 3), (18, .ifCond .eq 19, 3), (21, .aload_n 0, 1), (22, .iload_n 3, 1), (23, .iload_n 2, 1), (24, .invokevirtual 50, 3), (27, .aload_n 0, 1), (28, .getfield 22, 3), (31, .iload_n 2, 1), (32, .iconst 0, 1), (33, .iastore, 1), (34, .iinc 2 1, 3), (37, .iinc 3 1, 3), (40, .goto (-36), 3), (43, .aload_n 0, 1), (44, .iload_n 2, 1), (45, .putfield 31, 3), (48, .return_, 1)] = true := by decide +kernel
theorem cw_Cuts_keepHolding {k : Cd} (h1 : kCuts_keepHolding.2.2.2.2.1 + 1 ≤ k.2.2.2.2.1) (h2 : 8 + (kCuts_keepHolding.2.2.1 + 11) + kCuts_keepHolding.2.2.2.2.2 ≤ k.2.2.2.2.2) : Cw k kCuts_keepHolding 1 := ⟨wcode_X2_keepHolding, wini_SplitProgram_Cuts, ⟨by decide, by decide, by decide +kernel⟩, h1, h2⟩
def Cuts_keepHolding_j37 (v0 : Nat) (v1 : Nat) (v2 : Int32) (v3 : Int32) (h : AHeap) : Option ((Int32 × Int32 × AHeap) ⊕ ((Int32 × Int32 × AHeap))) :=
  some (Sum.inl (v2, v3 + 1, h))
theorem Cuts_keepHolding_j37_J {E : JE} {l : Launch} {G : GX} {r : Option Value} {h' : AHeap} (ok : JOK E l G kCuts_keepHolding 0 0 r h') (v0 : Nat) (v1 : Nat) (v2 : Int32) (v3 : Int32) (h : AHeap) {Y : (Int32 × Int32 × AHeap) ⊕ ((Int32 × Int32 × AHeap)) → Prop} (k1 : ∀ s' : Int32 × Int32 × AHeap, Y (.inl s') → JW E kCuts_keepHolding 4 [some (.ref v0), some (.ref v1), some (.int s'.1), some (.int s'.2.1)] [] s'.2.2 0 0) (kx43 : ∀ q : Int32 × Int32 × AHeap, Y (.inr q) → JW E kCuts_keepHolding 43 [some (.ref v0), some (.ref v1), some (.int q.1), some (.int q.2.1)] [] q.2.2 0 0) : J E kCuts_keepHolding (Cuts_keepHolding_j37 v0 v1 v2 v3 h) Y 37 [some (.ref v0), some (.ref v1), some (.int v2), some (.int v3)] [] h 0 0 := by
  unfold Cuts_keepHolding_j37
  refine J_iinc (v := v3 + 1) (ls' := [some (.ref v0), some (.ref v1), some (.int v2), some (.int (v3 + 1))]) (pc' := 40) ok (dOf dX2_keepHolding 23 rfl) rfl rfl (by rfl) (Nat.le_of_ble_eq_true rfl) rfl rfl ?_
  refine J_goto (tgt := 4) ok (dOf dX2_keepHolding 24 rfl) (by decide) ?_
  exact J_fin (k1 (v2, v3 + 1, h))
def Cuts_keepHolding_b4 (v0 : Nat) (v1 : Nat) (s : Int32 × Int32 × AHeap) : Option ((Int32 × Int32 × AHeap) ⊕ ((Int32 × Int32 × AHeap))) :=
  (gfI s.2.2 v0 2 1).bind fun x1 => (if x1 ≤ s.2.1 then some (Sum.inr (s.1, s.2.1, s.2.2)) else (chk s.2.2 v0 2).bind fun _ => bnd2 (Cuts_holds v0 v1 s.2.1 s.2.2) fun x3 h2 => (if x3 = 0 then Cuts_keepHolding_j37 v0 v1 s.1 s.2.1 h2 else (chk h2 v0 2).bind fun _ => bnd2 (Cuts_move v0 s.2.1 s.1 h2) fun _ h4 => (gfR h4 v0 2 4).bind fun a5 => (ast 0 h4 a5 s.1 0).bind fun h6 => Cuts_keepHolding_j37 v0 v1 (s.1 + 1) s.2.1 h6))
theorem Cuts_keepHolding_b4_J {E : JE} {l : Launch} {G : GX} {r : Option Value} {h' : AHeap} (ok : JOK E l G kCuts_keepHolding 0 0 r h') (v0 : Nat) (v1 : Nat) {Y : (Int32 × Int32 × AHeap) ⊕ ((Int32 × Int32 × AHeap)) → Prop} (k1 : ∀ s' : Int32 × Int32 × AHeap, Y (.inl s') → JW E kCuts_keepHolding 4 [some (.ref v0), some (.ref v1), some (.int s'.1), some (.int s'.2.1)] [] s'.2.2 0 0) (kx43 : ∀ q : Int32 × Int32 × AHeap, Y (.inr q) → JW E kCuts_keepHolding 43 [some (.ref v0), some (.ref v1), some (.int q.1), some (.int q.2.1)] [] q.2.2 0 0) (s : Int32 × Int32 × AHeap) : J E kCuts_keepHolding (Cuts_keepHolding_b4 v0 v1 s) Y 4 [some (.ref v0), some (.ref v1), some (.int s.1), some (.int s.2.1)] [] s.2.2 0 0 := by
  unfold Cuts_keepHolding_b4
  refine J_iload_n (pc' := 5) ok (dOf dX2_keepHolding 4 rfl) rfl rfl rfl ?_
  refine J_aload_n (pc' := 6) ok (dOf dX2_keepHolding 5 rfl) rfl rfl rfl ?_
  refine J_getI (ci := 2) (kf := 1) (C := RX2) (T := TX2) (N := 7) (pc' := 9) ok (dOf dX2_keepHolding 6 rfl) rfl (by decide) rfl (by decide) win_2 wfl_X2_31 (fun x1 => ?_)
  refine J_icmp_ge (tgt := 43) (pc' := 12) ok (dOf dX2_keepHolding 7 rfl) rfl (by decide) ?_ ?_
  · exact J_fin (kx43 (s.1, s.2.1, s.2.2))
  · refine J_aload_n (pc' := 13) ok (dOf dX2_keepHolding 8 rfl) rfl rfl rfl ?_
    refine J_aload_n (pc' := 14) ok (dOf dX2_keepHolding 9 rfl) rfl rfl rfl ?_
    refine J_iload_n (pc' := 15) ok (dOf dX2_keepHolding 10 rfl) rfl rfl rfl ?_
    refine J_callVi (k2 := kCuts_holds) (ci := 2) (T := TX2) (N := 7) (as := [.ref v1, .int s.2.1]) (pc' := 18) ok (dOf dX2_keepHolding 11 rfl) rfl (cw_Cuts_holds (by decide) (by decide)) wml_X2_46 winst_X2_holds wsel_X2_holds rfl ⟨Nat.le_refl 0, Nat.le_refl 0⟩ (Nat.le_of_ble_eq_true rfl) rfl (fun _ _ hf => t_Cuts_holds hf) (fun x3 h2 => ?_)
    refine J_if_eq (tgt := 37) (pc' := 21) ok (dOf dX2_keepHolding 12 rfl) rfl (by decide) ?_ ?_
    · exact Cuts_keepHolding_j37_J ok v0 v1 s.1 s.2.1 h2 k1 kx43
    · refine J_aload_n (pc' := 22) ok (dOf dX2_keepHolding 13 rfl) rfl rfl rfl ?_
      refine J_iload_n (pc' := 23) ok (dOf dX2_keepHolding 14 rfl) rfl rfl rfl ?_
      refine J_iload_n (pc' := 24) ok (dOf dX2_keepHolding 15 rfl) rfl rfl rfl ?_
      refine J_callVv (k2 := kCuts_move) (ci := 2) (T := TX2) (N := 7) (as := [.int s.2.1, .int s.1]) (pc' := 27) ok (dOf dX2_keepHolding 16 rfl) rfl (cw_Cuts_move (by decide) (by decide)) wml_X2_50 winst_X2_move wsel_X2_move rfl ⟨Nat.le_refl 0, Nat.le_refl 0⟩ (Nat.le_of_ble_eq_true rfl) rfl (fun _ _ hf => t_Cuts_move hf) (fun _ h4 => ?_)
      refine J_aload_n (pc' := 28) ok (dOf dX2_keepHolding 17 rfl) rfl rfl rfl ?_
      refine J_getR (ci := 2) (kf := 4) (C := RX2) (T := TX2) (N := 7) (pc' := 31) ok (dOf dX2_keepHolding 18 rfl) rfl (by decide) rfl (by decide) win_2 wfl_X2_22 (fun a5 => ?_)
      refine J_iload_n (pc' := 32) ok (dOf dX2_keepHolding 19 rfl) rfl rfl rfl ?_
      refine J_iconst (v := 0) (pc' := 33) ok (dOf dX2_keepHolding 20 rfl) rfl (by decide) ?_
      refine J_iast (pc' := 34) ok (dOf dX2_keepHolding 21 rfl) rfl (fun h6 _ => ?_)
      refine J_iinc (v := s.1 + 1) (ls' := [some (.ref v0), some (.ref v1), some (.int (s.1 + 1)), some (.int s.2.1)]) (pc' := 37) ok (dOf dX2_keepHolding 22 rfl) rfl rfl (by rfl) (Nat.le_of_ble_eq_true rfl) rfl rfl ?_
      exact Cuts_keepHolding_j37_J ok v0 v1 (s.1 + 1) s.2.1 h6 k1 kx43
def Cuts_keepHolding_j43 (v0 : Nat) (v1 : Nat) (v2 : Int32) (v3 : Int32) (h : AHeap) : Option (Unit × AHeap) :=
  (pfV h v0 2 1 (.int v2)).bind fun h7 => some ((), h7)
theorem Cuts_keepHolding_j43_J {E : JE} {l : Launch} {G : GX} {h' : AHeap} (ok : JOK E l G kCuts_keepHolding 0 0 none h') (v0 : Nat) (v1 : Nat) (v2 : Int32) (v3 : Int32) (h : AHeap) : J E kCuts_keepHolding (Cuts_keepHolding_j43 v0 v1 v2 v3 h) (fun z => z = ((), h')) 43 [some (.ref v0), some (.ref v1), some (.int v2), some (.int v3)] [] h 0 0 := by
  unfold Cuts_keepHolding_j43
  refine J_aload_n (pc' := 44) ok (dOf dX2_keepHolding 25 rfl) rfl rfl rfl ?_
  refine J_iload_n (pc' := 45) ok (dOf dX2_keepHolding 26 rfl) rfl rfl rfl ?_
  refine J_putI (ci := 2) (kf := 1) (C := RX2) (T := TX2) (N := 7) (pc' := 48) ok tyX2 (dOf dX2_keepHolding 27 rfl) rfl rfl (by decide) win_2 tyX2_ok nmX2 rfl rfl wfl_X2_31 (fun h7 _ => ?_)
  exact J_vreturn ok (dOf dX2_keepHolding 28 rfl) rfl (Eq.refl 0) (Nat.le_refl 0)
def Cuts_keepHolding (v0 : Nat) (v1 : Nat) (h : AHeap) : Option (Unit × AHeap) :=
  (iter (Cuts_keepHolding_b4 v0 v1) Lmax (0, 0, h)).bind (fun (q4 : Int32 × Int32 × AHeap) => Cuts_keepHolding_j43 v0 v1 q4.1 q4.2.1 q4.2.2)
theorem t_Cuts_keepHolding {l : Launch} {G : GX} {v0 : Nat} {v1 : Nat} {h : AHeap} {h1 : AHeap} (hf : Cuts_keepHolding v0 v1 h = some ((), h1)) : CT l G kCuts_keepHolding 0 0 [.ref v0, .ref v1] h none h1 := by
  refine CT_of (ls := [some (.ref v0), some (.ref v1), none, none]) (Z := fun z => z = ((), h1)) (by decide +kernel) (Nat.le_of_ble_eq_true rfl) hf rfl ⟨rfl, rfl, trivial⟩ (fun E ok => ?_)
  unfold Cuts_keepHolding
  refine J_iconst (v := 0) (pc' := 1) ok (dOf dX2_keepHolding 0 rfl) rfl (by decide) ?_
  refine J_istore_n (ls' := [some (.ref v0), some (.ref v1), some (.int 0), none]) (pc' := 2) ok (dOf dX2_keepHolding 1 rfl) rfl rfl (Nat.le_of_ble_eq_true rfl) rfl rfl ?_
  refine J_iconst (v := 0) (pc' := 3) ok (dOf dX2_keepHolding 2 rfl) rfl (by decide) ?_
  refine J_istore_n (ls' := [some (.ref v0), some (.ref v1), some (.int 0), some (.int 0)]) (pc' := 4) ok (dOf dX2_keepHolding 3 rfl) rfl rfl (Nat.le_of_ble_eq_true rfl) rfl rfl ?_
  refine J_iter (lf := fun z4 => [some (.ref v0), some (.ref v1), some (.int z4.1), some (.int z4.2.1)]) (sf := fun _ => []) (hf := fun z4 => z4.2.2) (px := (fun (q4 : Int32 × Int32 × AHeap) => 43)) (lx := (fun (q4 : Int32 × Int32 × AHeap) => [some (.ref v0), some (.ref v1), some (.int q4.1), some (.int q4.2.1)])) (sx := (fun (q4 : Int32 × Int32 × AHeap) => [])) (hx := (fun (q4 : Int32 × Int32 × AHeap) => q4.2.2)) (fun Y2 z4 m1 m2 => Cuts_keepHolding_b4_J ok v0 v1 m1 m2 z4) (fun q4 => ?_) Lmax _
  exact Cuts_keepHolding_j43_J ok v0 v1 q4.1 q4.2.1 q4.2.2
-- X10_afterChange
abbrev kSp_afterChange : Cd := (yX10_afterChange, cX10_afterChange, 1, none, 3, 90)
theorem dX10_afterChange : dcheck cX10_afterChange [(0, .aload_n 0, 1), (1, .getfield 10, 3), (4, .getfield 187, 3), (7, .invokevirtual 205, 3), (10, .aload_n 0, 1), (11, .getfield 10, 3), (14, .getfield 120, 3), (17, .aload_n 0, 1), (18, .getfield 10, 3), (21, .getfield 113, 3), (24, .invokevirtual 354, 3), (27, .aload_n 0, 1), (28, .getfield 23, 3), (31, .getfield 208, 3), (34, .iconst 1, 1), (35, .putfield 212, 3), (38, .return_, 1)] = true := by decide +kernel
theorem cw_Sp_afterChange {k : Cd} (h1 : kSp_afterChange.2.2.2.2.1 + 1 ≤ k.2.2.2.2.1) (h2 : 8 + (kSp_afterChange.2.2.1 + 11) + kSp_afterChange.2.2.2.2.2 ≤ k.2.2.2.2.2) : Cw k kSp_afterChange 0 := ⟨wcode_X10_afterChange, wini_SplitProgram, ⟨by decide, by decide, by decide +kernel⟩, h1, h2⟩
def Sp_afterChange (v0 : Nat) (h : AHeap) : Option (Unit × AHeap) :=
  (gfR h v0 10 0).bind fun a1 => (gfR h a1 8 2).bind fun a2 => (chk h a2 7).bind fun _ => bnd2 (Srch_reset a2 h) fun _ h3 => (gfR h3 v0 10 0).bind fun a4 => (gfR h3 a4 8 1).bind fun a5 => (gfR h3 v0 10 0).bind fun a6 => (gfR h3 a6 8 0).bind fun a7 => (chk h3 a5 2).bind fun _ => bnd2 (Cuts_keepHolding a5 a7 h3) fun _ h8 => (gfR h8 v0 10 2).bind fun a9 => (gfR h8 a9 3 1).bind fun a10 => (bz 1).bind fun x12 => (pfV h8 a10 1 0 (.int x12)).bind fun h11 => some ((), h11)
theorem t_Sp_afterChange {l : Launch} {G : GX} {v0 : Nat} {h : AHeap} {h1 : AHeap} (hf : Sp_afterChange v0 h = some ((), h1)) : CT l G kSp_afterChange 0 0 [.ref v0] h none h1 := by
  refine CT_of (ls := [some (.ref v0)]) (Z := fun z => z = ((), h1)) (by decide +kernel) (Nat.le_of_ble_eq_true rfl) hf rfl ⟨rfl, trivial⟩ (fun E ok => ?_)
  unfold Sp_afterChange
  refine J_aload_n (pc' := 1) ok (dOf dX10_afterChange 0 rfl) rfl rfl rfl ?_
  refine J_getR (ci := 10) (kf := 0) (C := RX10) (T := TX10) (N := 14) (pc' := 4) ok (dOf dX10_afterChange 1 rfl) rfl (by decide) rfl (by decide) win_10 wfl_X10_10 (fun a1 => ?_)
  refine J_getR (ci := 8) (kf := 2) (C := RX8) (T := TX8) (N := 3) (pc' := 7) ok (dOf dX10_afterChange 2 rfl) rfl (by decide) rfl (by decide) win_8 wfl_X10_187 (fun a2 => ?_)
  refine J_callVv (k2 := kSrch_reset) (ci := 7) (T := TX7) (N := 7) (as := []) (pc' := 10) ok (dOf dX10_afterChange 3 rfl) rfl (cw_Srch_reset (by decide) (by decide)) wml_X10_205 winst_X7_reset wsel_X7_reset rfl ⟨Nat.le_refl 0, Nat.le_refl 0⟩ (Nat.le_of_ble_eq_true rfl) rfl (fun _ _ hf => t_Srch_reset hf) (fun _ h3 => ?_)
  refine J_aload_n (pc' := 11) ok (dOf dX10_afterChange 4 rfl) rfl rfl rfl ?_
  refine J_getR (ci := 10) (kf := 0) (C := RX10) (T := TX10) (N := 14) (pc' := 14) ok (dOf dX10_afterChange 5 rfl) rfl (by decide) rfl (by decide) win_10 wfl_X10_10 (fun a4 => ?_)
  refine J_getR (ci := 8) (kf := 1) (C := RX8) (T := TX8) (N := 3) (pc' := 17) ok (dOf dX10_afterChange 6 rfl) rfl (by decide) rfl (by decide) win_8 wfl_X10_120 (fun a5 => ?_)
  refine J_aload_n (pc' := 18) ok (dOf dX10_afterChange 7 rfl) rfl rfl rfl ?_
  refine J_getR (ci := 10) (kf := 0) (C := RX10) (T := TX10) (N := 14) (pc' := 21) ok (dOf dX10_afterChange 8 rfl) rfl (by decide) rfl (by decide) win_10 wfl_X10_10 (fun a6 => ?_)
  refine J_getR (ci := 8) (kf := 0) (C := RX8) (T := TX8) (N := 3) (pc' := 24) ok (dOf dX10_afterChange 9 rfl) rfl (by decide) rfl (by decide) win_8 wfl_X10_113 (fun a7 => ?_)
  refine J_callVv (k2 := kCuts_keepHolding) (ci := 2) (T := TX2) (N := 7) (as := [.ref a7]) (pc' := 27) ok (dOf dX10_afterChange 10 rfl) rfl (cw_Cuts_keepHolding (by decide) (by decide)) wml_X10_354 winst_X2_keepHolding wsel_X2_keepHolding rfl ⟨Nat.le_refl 0, Nat.le_refl 0⟩ (Nat.le_of_ble_eq_true rfl) rfl (fun _ _ hf => t_Cuts_keepHolding hf) (fun _ h8 => ?_)
  refine J_aload_n (pc' := 28) ok (dOf dX10_afterChange 11 rfl) rfl rfl rfl ?_
  refine J_getR (ci := 10) (kf := 2) (C := RX10) (T := TX10) (N := 14) (pc' := 31) ok (dOf dX10_afterChange 12 rfl) rfl (by decide) rfl (by decide) win_10 wfl_X10_23 (fun a9 => ?_)
  refine J_getR (ci := 3) (kf := 1) (C := RX3) (T := TX3) (N := 12) (pc' := 34) ok (dOf dX10_afterChange 13 rfl) rfl (by decide) rfl (by decide) win_3 wfl_X10_208 (fun a10 => ?_)
  refine J_iconst (v := 1) (pc' := 35) ok (dOf dX10_afterChange 14 rfl) rfl (by decide) ?_
  refine J_putZ (ci := 1) (kf := 0) (C := RX1) (T := TX1) (N := 3) (pc' := 38) ok tyX1 (dOf dX10_afterChange 15 rfl) rfl rfl (by decide) win_1 tyX1_ok nmX1 rfl rfl wfl_X10_212 (fun h11 _ => ?_)
  exact J_vreturn ok (dOf dX10_afterChange 16 rfl) rfl (Eq.refl 0) (Nat.le_refl 0)
-- X10_read
abbrev kSp_read : Cd := (yX10_read, cX10_read, 2, (some .int), 7, 151)
theorem dX10_read : dcheck cX10_read [(0, .aload_n 0, 1), (1, .getfield 30, 3), (4, .aload_n 0, 1), (5, .getfield 37, 3), (8, .invokevirtual 105, 3), (11, .istore_n 1, 1), (12, .aload_n 0, 1), (13, .getfield 30, 3), (16, .iconst 0, 1), (17, .putfield 101, 3), (20, .iload_n 1, 1), (21, .iconst (-1), 1), (22, .if_icmp .ne 10, 3), (25, .aload_n 0, 1), (26, .bipush (-6), 2), (28, .invokevirtual 81, 3), (31, .ireturn, 1), (32, .aload_n 0, 1), (33, .getfield 44, 3), (36, .aload_n 0, 1), (37, .getfield 10, 3), (40, .iconst 0, 1), (41, .invokevirtual 109, 3), (44, .aload_n 0, 1), (45, .getfield 10, 3), (48, .getfield 113, 3), (51, .aload_n 0, 1), (52, .getfield 37, 3), (55, .invokevirtual 116, 3), (58, .aload_n 0, 1), (59, .getfield 10, 3), (62, .getfield 120, 3), (65, .iconst 0, 1), (66, .putfield 123, 3), (69, .aload_n 0, 1), (70, .getfield 23, 3), (73, .getfield 126, 3), (76, .invokevirtual 130, 3), (79, .aload_n 0, 1), (80, .invokevirtual 135, 3), (83, .aload_n 0, 1), (84, .iload_n 1, 1), (85, .invokevirtual 91, 3), (88, .ireturn, 1)] = true := by decide +kernel
theorem cw_Sp_read {k : Cd} (h1 : kSp_read.2.2.2.2.1 + 1 ≤ k.2.2.2.2.1) (h2 : 8 + (kSp_read.2.2.1 + 11) + kSp_read.2.2.2.2.2 ≤ k.2.2.2.2.2) : Cw k kSp_read 0 := ⟨wcode_X10_read, wini_SplitProgram, ⟨by decide, by decide, by decide +kernel⟩, h1, h2⟩
def Sp_read (v0 : Nat) (h : AHeap) : Option (Int32 × AHeap) :=
  (gfR h v0 10 3).bind fun a1 => (gfR h v0 10 4).bind fun a2 => (chk h a1 9).bind fun _ => bnd2 (Tape_parse a1 a2 h) fun x4 h3 => (gfR h3 v0 10 3).bind fun a5 => (pfV h3 a5 9 1 (.int 0)).bind fun h6 => (if ¬ x4 = (-1) then (gfR h6 v0 10 5).bind fun a7 => (gfR h6 v0 10 0).bind fun a8 => (chk h6 a7 5).bind fun _ => bnd2 (Hist_keep a7 a8 0 h6) fun _ h9 => (gfR h9 v0 10 0).bind fun a10 => (gfR h9 a10 8 0).bind fun a11 => (gfR h9 v0 10 4).bind fun a12 => (chk h9 a11 6).bind fun _ => bnd2 (Prog_copyFrom a11 a12 h9) fun _ h13 => (gfR h13 v0 10 0).bind fun a14 => (gfR h13 a14 8 1).bind fun a15 => (pfV h13 a15 2 1 (.int 0)).bind fun h16 => (gfR h16 v0 10 2).bind fun a17 => (gfR h16 a17 3 0).bind fun a18 => (chk h16 a18 0).bind fun _ => bnd2 (Book_forgetAll a18 h16) fun _ h19 => (chk h19 v0 10).bind fun _ => bnd2 (Sp_afterChange v0 h19) fun _ h20 => (chk h20 v0 10).bind fun _ => bnd2 (Sp_accept v0 x4 h20) fun x22 h21 => some (x22, h21) else (chk h6 v0 10).bind fun _ => bnd2 (Sp_refuse v0 (-6) h6) fun x24 h23 => some (x24, h23))
theorem t_Sp_read {l : Launch} {G : GX} {v0 : Nat} {h : AHeap} {v : Int32} {h1 : AHeap} (hf : Sp_read v0 h = some (v, h1)) : CT l G kSp_read 0 0 [.ref v0] h (some (.int v)) h1 := by
  refine CT_of (ls := [some (.ref v0), none]) (Z := fun z => z = (v, h1)) (by decide +kernel) (Nat.le_of_ble_eq_true rfl) hf rfl ⟨rfl, trivial⟩ (fun E ok => ?_)
  unfold Sp_read
  refine J_aload_n (pc' := 1) ok (dOf dX10_read 0 rfl) rfl rfl rfl ?_
  refine J_getR (ci := 10) (kf := 3) (C := RX10) (T := TX10) (N := 14) (pc' := 4) ok (dOf dX10_read 1 rfl) rfl (by decide) rfl (by decide) win_10 wfl_X10_30 (fun a1 => ?_)
  refine J_aload_n (pc' := 5) ok (dOf dX10_read 2 rfl) rfl rfl rfl ?_
  refine J_getR (ci := 10) (kf := 4) (C := RX10) (T := TX10) (N := 14) (pc' := 8) ok (dOf dX10_read 3 rfl) rfl (by decide) rfl (by decide) win_10 wfl_X10_37 (fun a2 => ?_)
  refine J_callVi (k2 := kTape_parse) (ci := 9) (T := TX9) (N := 6) (as := [.ref a2]) (pc' := 11) ok (dOf dX10_read 4 rfl) rfl (cw_Tape_parse (by decide) (by decide)) wml_X10_105 winst_X9_parse wsel_X9_parse rfl ⟨Nat.le_refl 0, Nat.le_refl 0⟩ (Nat.le_of_ble_eq_true rfl) rfl (fun _ _ hf => t_Tape_parse hf) (fun x4 h3 => ?_)
  refine J_istore_n (ls' := [some (.ref v0), some (.int x4)]) (pc' := 12) ok (dOf dX10_read 5 rfl) rfl rfl (Nat.le_of_ble_eq_true rfl) rfl rfl ?_
  refine J_aload_n (pc' := 13) ok (dOf dX10_read 6 rfl) rfl rfl rfl ?_
  refine J_getR (ci := 10) (kf := 3) (C := RX10) (T := TX10) (N := 14) (pc' := 16) ok (dOf dX10_read 7 rfl) rfl (by decide) rfl (by decide) win_10 wfl_X10_30 (fun a5 => ?_)
  refine J_iconst (v := 0) (pc' := 17) ok (dOf dX10_read 8 rfl) rfl (by decide) ?_
  refine J_putI (ci := 9) (kf := 1) (C := RX9) (T := TX9) (N := 6) (pc' := 20) ok tyX9 (dOf dX10_read 9 rfl) rfl rfl (by decide) win_9 tyX9_ok nmX9 rfl rfl wfl_X10_101 (fun h6 _ => ?_)
  refine J_iload_n (pc' := 21) ok (dOf dX10_read 10 rfl) rfl rfl rfl ?_
  refine J_iconst (v := (-1)) (pc' := 22) ok (dOf dX10_read 11 rfl) rfl (by decide) ?_
  refine J_icmp_ne (tgt := 32) (pc' := 25) ok (dOf dX10_read 12 rfl) rfl (by decide) ?_ ?_
  · refine J_aload_n (pc' := 33) ok (dOf dX10_read 17 rfl) rfl rfl rfl ?_
    refine J_getR (ci := 10) (kf := 5) (C := RX10) (T := TX10) (N := 14) (pc' := 36) ok (dOf dX10_read 18 rfl) rfl (by decide) rfl (by decide) win_10 wfl_X10_44 (fun a7 => ?_)
    refine J_aload_n (pc' := 37) ok (dOf dX10_read 19 rfl) rfl rfl rfl ?_
    refine J_getR (ci := 10) (kf := 0) (C := RX10) (T := TX10) (N := 14) (pc' := 40) ok (dOf dX10_read 20 rfl) rfl (by decide) rfl (by decide) win_10 wfl_X10_10 (fun a8 => ?_)
    refine J_iconst (v := 0) (pc' := 41) ok (dOf dX10_read 21 rfl) rfl (by decide) ?_
    refine J_callVv (k2 := kHist_keep) (ci := 5) (T := TX5) (N := 4) (as := [.ref a8, .int 0]) (pc' := 44) ok (dOf dX10_read 22 rfl) rfl (cw_Hist_keep (by decide) (by decide)) wml_X10_109 winst_X5_keep wsel_X5_keep rfl ⟨Nat.le_refl 0, Nat.le_refl 0⟩ (Nat.le_of_ble_eq_true rfl) rfl (fun _ _ hf => t_Hist_keep hf) (fun _ h9 => ?_)
    refine J_aload_n (pc' := 45) ok (dOf dX10_read 23 rfl) rfl rfl rfl ?_
    refine J_getR (ci := 10) (kf := 0) (C := RX10) (T := TX10) (N := 14) (pc' := 48) ok (dOf dX10_read 24 rfl) rfl (by decide) rfl (by decide) win_10 wfl_X10_10 (fun a10 => ?_)
    refine J_getR (ci := 8) (kf := 0) (C := RX8) (T := TX8) (N := 3) (pc' := 51) ok (dOf dX10_read 25 rfl) rfl (by decide) rfl (by decide) win_8 wfl_X10_113 (fun a11 => ?_)
    refine J_aload_n (pc' := 52) ok (dOf dX10_read 26 rfl) rfl rfl rfl ?_
    refine J_getR (ci := 10) (kf := 4) (C := RX10) (T := TX10) (N := 14) (pc' := 55) ok (dOf dX10_read 27 rfl) rfl (by decide) rfl (by decide) win_10 wfl_X10_37 (fun a12 => ?_)
    refine J_callVv (k2 := kProg_copyFrom) (ci := 6) (T := TX6) (N := 9) (as := [.ref a12]) (pc' := 58) ok (dOf dX10_read 28 rfl) rfl (cw_Prog_copyFrom (by decide) (by decide)) wml_X10_116 winst_X6_copyFrom wsel_X6_copyFrom rfl ⟨Nat.le_refl 0, Nat.le_refl 0⟩ (Nat.le_of_ble_eq_true rfl) rfl (fun _ _ hf => t_Prog_copyFrom hf) (fun _ h13 => ?_)
    refine J_aload_n (pc' := 59) ok (dOf dX10_read 29 rfl) rfl rfl rfl ?_
    refine J_getR (ci := 10) (kf := 0) (C := RX10) (T := TX10) (N := 14) (pc' := 62) ok (dOf dX10_read 30 rfl) rfl (by decide) rfl (by decide) win_10 wfl_X10_10 (fun a14 => ?_)
    refine J_getR (ci := 8) (kf := 1) (C := RX8) (T := TX8) (N := 3) (pc' := 65) ok (dOf dX10_read 31 rfl) rfl (by decide) rfl (by decide) win_8 wfl_X10_120 (fun a15 => ?_)
    refine J_iconst (v := 0) (pc' := 66) ok (dOf dX10_read 32 rfl) rfl (by decide) ?_
    refine J_putI (ci := 2) (kf := 1) (C := RX2) (T := TX2) (N := 7) (pc' := 69) ok tyX2 (dOf dX10_read 33 rfl) rfl rfl (by decide) win_2 tyX2_ok nmX2 rfl rfl wfl_X10_123 (fun h16 _ => ?_)
    refine J_aload_n (pc' := 70) ok (dOf dX10_read 34 rfl) rfl rfl rfl ?_
    refine J_getR (ci := 10) (kf := 2) (C := RX10) (T := TX10) (N := 14) (pc' := 73) ok (dOf dX10_read 35 rfl) rfl (by decide) rfl (by decide) win_10 wfl_X10_23 (fun a17 => ?_)
    refine J_getR (ci := 3) (kf := 0) (C := RX3) (T := TX3) (N := 12) (pc' := 76) ok (dOf dX10_read 36 rfl) rfl (by decide) rfl (by decide) win_3 wfl_X10_126 (fun a18 => ?_)
    refine J_callVv (k2 := kBook_forgetAll) (ci := 0) (T := TX0) (N := 2) (as := []) (pc' := 79) ok (dOf dX10_read 37 rfl) rfl (cw_Book_forgetAll (by decide) (by decide)) wml_X10_130 winst_X0_forgetAll wsel_X0_forgetAll rfl ⟨Nat.le_refl 0, Nat.le_refl 0⟩ (Nat.le_of_ble_eq_true rfl) rfl (fun _ _ hf => t_Book_forgetAll hf) (fun _ h19 => ?_)
    refine J_aload_n (pc' := 80) ok (dOf dX10_read 38 rfl) rfl rfl rfl ?_
    refine J_callVv (k2 := kSp_afterChange) (ci := 10) (T := TX10) (N := 14) (as := []) (pc' := 83) ok (dOf dX10_read 39 rfl) rfl (cw_Sp_afterChange (by decide) (by decide)) wml_X10_135 winst_X10_afterChange wsel_X10_afterChange rfl ⟨Nat.le_refl 0, Nat.le_refl 0⟩ (Nat.le_of_ble_eq_true rfl) rfl (fun _ _ hf => t_Sp_afterChange hf) (fun _ h20 => ?_)
    refine J_aload_n (pc' := 84) ok (dOf dX10_read 40 rfl) rfl rfl rfl ?_
    refine J_iload_n (pc' := 85) ok (dOf dX10_read 41 rfl) rfl rfl rfl ?_
    refine J_callVi (k2 := kSp_accept) (ci := 10) (T := TX10) (N := 14) (as := [.int x4]) (pc' := 88) ok (dOf dX10_read 42 rfl) rfl (cw_Sp_accept (by decide) (by decide)) wml_X10_91 winst_X10_accept wsel_X10_accept rfl ⟨Nat.le_refl 0, Nat.le_refl 0⟩ (Nat.le_of_ble_eq_true rfl) rfl (fun _ _ hf => t_Sp_accept hf) (fun x22 h21 => ?_)
    exact J_ireturn ok (dOf dX10_read 43 rfl) rfl (Eq.refl 0) (Nat.le_refl 0)
  · refine J_aload_n (pc' := 26) ok (dOf dX10_read 13 rfl) rfl rfl rfl ?_
    refine J_bipush (v := (-6)) (pc' := 28) ok (dOf dX10_read 14 rfl) rfl (by decide) ?_
    refine J_callVi (k2 := kSp_refuse) (ci := 10) (T := TX10) (N := 14) (as := [.int (-6)]) (pc' := 31) ok (dOf dX10_read 15 rfl) rfl (cw_Sp_refuse (by decide) (by decide)) wml_X10_81 winst_X10_refuse wsel_X10_refuse rfl ⟨Nat.le_refl 0, Nat.le_refl 0⟩ (Nat.le_of_ble_eq_true rfl) rfl (fun _ _ hf => t_Sp_refuse hf) (fun x24 h23 => ?_)
    exact J_ireturn ok (dOf dX10_read 16 rfl) rfl (Eq.refl 0) (Nat.le_refl 0)
-- X10_fault
abbrev kSp_fault : Cd := (yX10_fault, cX10_fault, 1, (some .int), 0, 0)
theorem dX10_fault : dcheck cX10_fault [(0, .aload_n 0, 1), (1, .getfield 30, 3), (4, .getfield 138, 3), (7, .ireturn, 1)] = true := by decide +kernel
theorem cw_Sp_fault {k : Cd} (h1 : kSp_fault.2.2.2.2.1 + 1 ≤ k.2.2.2.2.1) (h2 : 8 + (kSp_fault.2.2.1 + 11) + kSp_fault.2.2.2.2.2 ≤ k.2.2.2.2.2) : Cw k kSp_fault 0 := ⟨wcode_X10_fault, wini_SplitProgram, ⟨by decide, by decide, by decide +kernel⟩, h1, h2⟩
def Sp_fault (v0 : Nat) (h : AHeap) : Option (Int32 × AHeap) :=
  (gfR h v0 10 3).bind fun a1 => (gfI h a1 9 2).bind fun x2 => some (x2, h)
theorem t_Sp_fault {l : Launch} {G : GX} {v0 : Nat} {h : AHeap} {v : Int32} {h1 : AHeap} (hf : Sp_fault v0 h = some (v, h1)) : CT l G kSp_fault 0 0 [.ref v0] h (some (.int v)) h1 := by
  refine CT_of (ls := [some (.ref v0)]) (Z := fun z => z = (v, h1)) (by decide +kernel) (Nat.le_of_ble_eq_true rfl) hf rfl ⟨rfl, trivial⟩ (fun E ok => ?_)
  unfold Sp_fault
  refine J_aload_n (pc' := 1) ok (dOf dX10_fault 0 rfl) rfl rfl rfl ?_
  refine J_getR (ci := 10) (kf := 3) (C := RX10) (T := TX10) (N := 14) (pc' := 4) ok (dOf dX10_fault 1 rfl) rfl (by decide) rfl (by decide) win_10 wfl_X10_30 (fun a1 => ?_)
  refine J_getI (ci := 9) (kf := 2) (C := RX9) (T := TX9) (N := 6) (pc' := 7) ok (dOf dX10_fault 2 rfl) rfl (by decide) rfl (by decide) win_9 wfl_X10_138 (fun x2 => ?_)
  exact J_ireturn ok (dOf dX10_fault 3 rfl) rfl (Eq.refl 0) (Nat.le_refl 0)
-- X10_canBe
abbrev kSp_canBe : Cd := (yX10_canBe, cX10_canBe, 2, (some .boolean), 0, 0)
theorem dX10_canBe : dcheck cX10_canBe [(0, .iload_n 0, 1), (1, .tableswitch 76 0 2 #[27, 44, 61], 27), (28, .iload_n 1, 1), (29, .ifCond .lt 14, 3), (32, .iload_n 1, 1), (33, .sipush 999, 3), (36, .if_icmp .gt 7, 3), (39, .iconst 1, 1), (40, .goto 4, 3), (43, .iconst 0, 1), (44, .ireturn, 1), (45, .iload_n 1, 1), (46, .iconst 1, 1), (47, .if_icmp .lt 13, 3), (50, .iload_n 1, 1), (51, .bipush 20, 2), (53, .if_icmp .gt 7, 3), (56, .iconst 1, 1), (57, .goto 4, 3), (60, .iconst 0, 1), (61, .ireturn, 1), (62, .iload_n 1, 1), (63, .ifCond .lt 12, 3), (66, .iload_n 1, 1), (67, .iconst 3, 1), (68, .if_icmp .gt 7, 3), (71, .iconst 1, 1), (72, .goto 4, 3), (75, .iconst 0, 1), (76, .ireturn, 1), (77, .iconst 0, 1), (78, .ireturn, 1)] = true := by decide +kernel
theorem cw_Sp_canBe {k : Cd} (h1 : kSp_canBe.2.2.2.2.1 + 1 ≤ k.2.2.2.2.1) (h2 : 8 + (kSp_canBe.2.2.1 + 11) + kSp_canBe.2.2.2.2.2 ≤ k.2.2.2.2.2) : Cw k kSp_canBe 2 := ⟨wcode_X10_canBe, wini_SplitProgram, ⟨by decide, by decide, by decide +kernel⟩, h1, h2⟩
def Sp_canBe_j44 (v0 : Int32) (v1 : Int32) (t0 : Int32) (h : AHeap) : Option (Int32 × AHeap) :=
  (bz t0).bind fun z => some (z, h)
theorem Sp_canBe_j44_J {E : JE} {l : Launch} {G : GX} {v : Int32} {h' : AHeap} (ok : JOK E l G kSp_canBe 0 0 (some (.int v)) h') (v0 : Int32) (v1 : Int32) (t0 : Int32) (h : AHeap) : J E kSp_canBe (Sp_canBe_j44 v0 v1 t0 h) (fun z => z = (v, h')) 44 [some (.int v0), some (.int v1)] [.int t0] h 0 0 := by
  unfold Sp_canBe_j44
  exact J_zreturn ok (dOf dX10_canBe 10 rfl) rfl (Eq.refl 0) (Nat.le_refl 0)
def Sp_canBe_j43 (v0 : Int32) (v1 : Int32) (h : AHeap) : Option (Int32 × AHeap) :=
  Sp_canBe_j44 v0 v1 0 h
theorem Sp_canBe_j43_J {E : JE} {l : Launch} {G : GX} {v : Int32} {h' : AHeap} (ok : JOK E l G kSp_canBe 0 0 (some (.int v)) h') (v0 : Int32) (v1 : Int32) (h : AHeap) : J E kSp_canBe (Sp_canBe_j43 v0 v1 h) (fun z => z = (v, h')) 43 [some (.int v0), some (.int v1)] [] h 0 0 := by
  unfold Sp_canBe_j43
  refine J_iconst (v := 0) (pc' := 44) ok (dOf dX10_canBe 9 rfl) rfl (by decide) ?_
  exact Sp_canBe_j44_J ok v0 v1 0 h
def Sp_canBe_j61 (v0 : Int32) (v1 : Int32) (t0 : Int32) (h : AHeap) : Option (Int32 × AHeap) :=
  (bz t0).bind fun z => some (z, h)
theorem Sp_canBe_j61_J {E : JE} {l : Launch} {G : GX} {v : Int32} {h' : AHeap} (ok : JOK E l G kSp_canBe 0 0 (some (.int v)) h') (v0 : Int32) (v1 : Int32) (t0 : Int32) (h : AHeap) : J E kSp_canBe (Sp_canBe_j61 v0 v1 t0 h) (fun z => z = (v, h')) 61 [some (.int v0), some (.int v1)] [.int t0] h 0 0 := by
  unfold Sp_canBe_j61
  exact J_zreturn ok (dOf dX10_canBe 20 rfl) rfl (Eq.refl 0) (Nat.le_refl 0)
def Sp_canBe_j60 (v0 : Int32) (v1 : Int32) (h : AHeap) : Option (Int32 × AHeap) :=
  Sp_canBe_j61 v0 v1 0 h
theorem Sp_canBe_j60_J {E : JE} {l : Launch} {G : GX} {v : Int32} {h' : AHeap} (ok : JOK E l G kSp_canBe 0 0 (some (.int v)) h') (v0 : Int32) (v1 : Int32) (h : AHeap) : J E kSp_canBe (Sp_canBe_j60 v0 v1 h) (fun z => z = (v, h')) 60 [some (.int v0), some (.int v1)] [] h 0 0 := by
  unfold Sp_canBe_j60
  refine J_iconst (v := 0) (pc' := 61) ok (dOf dX10_canBe 19 rfl) rfl (by decide) ?_
  exact Sp_canBe_j61_J ok v0 v1 0 h
def Sp_canBe_j76 (v0 : Int32) (v1 : Int32) (t0 : Int32) (h : AHeap) : Option (Int32 × AHeap) :=
  (bz t0).bind fun z => some (z, h)
theorem Sp_canBe_j76_J {E : JE} {l : Launch} {G : GX} {v : Int32} {h' : AHeap} (ok : JOK E l G kSp_canBe 0 0 (some (.int v)) h') (v0 : Int32) (v1 : Int32) (t0 : Int32) (h : AHeap) : J E kSp_canBe (Sp_canBe_j76 v0 v1 t0 h) (fun z => z = (v, h')) 76 [some (.int v0), some (.int v1)] [.int t0] h 0 0 := by
  unfold Sp_canBe_j76
  exact J_zreturn ok (dOf dX10_canBe 29 rfl) rfl (Eq.refl 0) (Nat.le_refl 0)
def Sp_canBe_j75 (v0 : Int32) (v1 : Int32) (h : AHeap) : Option (Int32 × AHeap) :=
  Sp_canBe_j76 v0 v1 0 h
theorem Sp_canBe_j75_J {E : JE} {l : Launch} {G : GX} {v : Int32} {h' : AHeap} (ok : JOK E l G kSp_canBe 0 0 (some (.int v)) h') (v0 : Int32) (v1 : Int32) (h : AHeap) : J E kSp_canBe (Sp_canBe_j75 v0 v1 h) (fun z => z = (v, h')) 75 [some (.int v0), some (.int v1)] [] h 0 0 := by
  unfold Sp_canBe_j75
  refine J_iconst (v := 0) (pc' := 76) ok (dOf dX10_canBe 28 rfl) rfl (by decide) ?_
  exact Sp_canBe_j76_J ok v0 v1 0 h
def Sp_canBe (v0 : Int32) (v1 : Int32) (h : AHeap) : Option (Int32 × AHeap) :=
  swi v0 0 [(if v1 < 0 then Sp_canBe_j43 v0 v1 h else (if 999 < v1 then Sp_canBe_j43 v0 v1 h else Sp_canBe_j44 v0 v1 1 h)), (if v1 < 1 then Sp_canBe_j60 v0 v1 h else (if 20 < v1 then Sp_canBe_j60 v0 v1 h else Sp_canBe_j61 v0 v1 1 h)), (if v1 < 0 then Sp_canBe_j75 v0 v1 h else (if 3 < v1 then Sp_canBe_j75 v0 v1 h else Sp_canBe_j76 v0 v1 1 h))] ((bz 0).bind fun z => some (z, h))
theorem t_Sp_canBe {l : Launch} {G : GX} {v0 : Int32} {v1 : Int32} {h : AHeap} {v : Int32} {h1 : AHeap} (hf : Sp_canBe v0 v1 h = some (v, h1)) : CT l G kSp_canBe 0 0 [.int v0, .int v1] h (some (.int v)) h1 := by
  refine CT_of (ls := [some (.int v0), some (.int v1)]) (Z := fun z => z = (v, h1)) (by decide +kernel) (Nat.le_of_ble_eq_true rfl) hf rfl ⟨rfl, rfl, trivial⟩ (fun E ok => ?_)
  unfold Sp_canBe
  refine J_iload_n (pc' := 1) ok (dOf dX10_canBe 0 rfl) rfl rfl rfl ?_
  refine J_tsw (tgd := 77) ok [28, 45, 62] (dOf dX10_canBe 1 rfl) rfl rfl (by decide) rfl ?_ (allJ_at _ _ ⟨?_, ?_, ?_, trivial⟩)
  · refine J_iconst (v := 0) (pc' := 78) ok (dOf dX10_canBe 30 rfl) rfl (by decide) ?_
    exact J_zreturn ok (dOf dX10_canBe 31 rfl) rfl (Eq.refl 0) (Nat.le_refl 0)
  · refine J_iload_n (pc' := 29) ok (dOf dX10_canBe 2 rfl) rfl rfl rfl ?_
    refine J_if_lt (tgt := 43) (pc' := 32) ok (dOf dX10_canBe 3 rfl) rfl (by decide) ?_ ?_
    · exact Sp_canBe_j43_J ok v0 v1 h
    · refine J_iload_n (pc' := 33) ok (dOf dX10_canBe 4 rfl) rfl rfl rfl ?_
      refine J_sipush (v := 999) (pc' := 36) ok (dOf dX10_canBe 5 rfl) rfl (by decide) ?_
      refine J_icmp_gt (tgt := 43) (pc' := 39) ok (dOf dX10_canBe 6 rfl) rfl (by decide) ?_ ?_
      · exact Sp_canBe_j43_J ok v0 v1 h
      · refine J_iconst (v := 1) (pc' := 40) ok (dOf dX10_canBe 7 rfl) rfl (by decide) ?_
        refine J_goto (tgt := 44) ok (dOf dX10_canBe 8 rfl) (by decide) ?_
        exact Sp_canBe_j44_J ok v0 v1 1 h
  · refine J_iload_n (pc' := 46) ok (dOf dX10_canBe 11 rfl) rfl rfl rfl ?_
    refine J_iconst (v := 1) (pc' := 47) ok (dOf dX10_canBe 12 rfl) rfl (by decide) ?_
    refine J_icmp_lt (tgt := 60) (pc' := 50) ok (dOf dX10_canBe 13 rfl) rfl (by decide) ?_ ?_
    · exact Sp_canBe_j60_J ok v0 v1 h
    · refine J_iload_n (pc' := 51) ok (dOf dX10_canBe 14 rfl) rfl rfl rfl ?_
      refine J_bipush (v := 20) (pc' := 53) ok (dOf dX10_canBe 15 rfl) rfl (by decide) ?_
      refine J_icmp_gt (tgt := 60) (pc' := 56) ok (dOf dX10_canBe 16 rfl) rfl (by decide) ?_ ?_
      · exact Sp_canBe_j60_J ok v0 v1 h
      · refine J_iconst (v := 1) (pc' := 57) ok (dOf dX10_canBe 17 rfl) rfl (by decide) ?_
        refine J_goto (tgt := 61) ok (dOf dX10_canBe 18 rfl) (by decide) ?_
        exact Sp_canBe_j61_J ok v0 v1 1 h
  · refine J_iload_n (pc' := 63) ok (dOf dX10_canBe 21 rfl) rfl rfl rfl ?_
    refine J_if_lt (tgt := 75) (pc' := 66) ok (dOf dX10_canBe 22 rfl) rfl (by decide) ?_ ?_
    · exact Sp_canBe_j75_J ok v0 v1 h
    · refine J_iload_n (pc' := 67) ok (dOf dX10_canBe 23 rfl) rfl rfl rfl ?_
      refine J_iconst (v := 3) (pc' := 68) ok (dOf dX10_canBe 24 rfl) rfl (by decide) ?_
      refine J_icmp_gt (tgt := 75) (pc' := 71) ok (dOf dX10_canBe 25 rfl) rfl (by decide) ?_ ?_
      · exact Sp_canBe_j75_J ok v0 v1 h
      · refine J_iconst (v := 1) (pc' := 72) ok (dOf dX10_canBe 26 rfl) rfl (by decide) ?_
        refine J_goto (tgt := 76) ok (dOf dX10_canBe 27 rfl) (by decide) ?_
        exact Sp_canBe_j76_J ok v0 v1 1 h
-- X10_plant
abbrev kSp_plant : Cd := (yX10_plant, cX10_plant, 5, (some .int), 4, 110)
theorem dX10_plant : dcheck cX10_plant [(0, .aload_n 0, 1), (1, .getfield 10, 3), (4, .getfield 113, 3), (7, .astore 4, 2), (9, .iconst 0, 1), (10, .iload_n 1, 1), (11, .invokestatic 141, 3), (14, .ifCond .eq 19, 3), (17, .iconst 1, 1), (18, .iload_n 2, 1), (19, .invokestatic 141, 3), (22, .ifCond .eq 11, 3), (25, .iconst 2, 1), (26, .iload_n 3, 1), (27, .invokestatic 141, 3), (30, .ifCond .ne 9, 3), (33, .aload_n 0, 1), (34, .iconst (-1), 1), (35, .invokevirtual 81, 3), (38, .ireturn, 1), (39, .aload 4, 2), (41, .getfield 145, 3), (44, .iconst 4, 1), (45, .if_icmp .lt 10, 3), (48, .aload_n 0, 1), (49, .bipush (-5), 2), (51, .invokevirtual 81, 3), (54, .ireturn, 1), (55, .aload_n 0, 1), (56, .getfield 44, 3), (59, .aload_n 0, 1), (60, .getfield 10, 3), (63, .iconst 1, 1), (64, .invokevirtual 109, 3), (67, .aload 4, 2), (69, .iload_n 1, 1), (70, .iload_n 2, 1), (71, .iload_n 3, 1), (72, .invokevirtual 148, 3), (75, .aload_n 0, 1), (76, .getfield 23, 3), (79, .getfield 126, 3), (82, .invokevirtual 130, 3), (85, .aload_n 0, 1), (86, .invokevirtual 135, 3), (89, .aload_n 0, 1), (90, .aload 4, 2), (92, .getfield 145, 3), (95, .iconst 1, 1), (96, .isub, 1), (97, .invokevirtual 91, 3), (100, .ireturn, 1)] = true := by decide +kernel
theorem cw_Sp_plant {k : Cd} (h1 : kSp_plant.2.2.2.2.1 + 1 ≤ k.2.2.2.2.1) (h2 : 8 + (kSp_plant.2.2.1 + 11) + kSp_plant.2.2.2.2.2 ≤ k.2.2.2.2.2) : Cw k kSp_plant 3 := ⟨wcode_X10_plant, wini_SplitProgram, ⟨by decide, by decide, by decide +kernel⟩, h1, h2⟩
def Sp_plant_j33 (v0 : Nat) (v1 : Int32) (v2 : Int32) (v3 : Int32) (v4 : Nat) (h : AHeap) : Option (Int32 × AHeap) :=
  (chk h v0 10).bind fun _ => bnd2 (Sp_refuse v0 (-1) h) fun x6 h5 => some (x6, h5)
theorem Sp_plant_j33_J {E : JE} {l : Launch} {G : GX} {v : Int32} {h' : AHeap} (ok : JOK E l G kSp_plant 0 0 (some (.int v)) h') (v0 : Nat) (v1 : Int32) (v2 : Int32) (v3 : Int32) (v4 : Nat) (h : AHeap) : J E kSp_plant (Sp_plant_j33 v0 v1 v2 v3 v4 h) (fun z => z = (v, h')) 33 [some (.ref v0), some (.int v1), some (.int v2), some (.int v3), some (.ref v4)] [] h 0 0 := by
  unfold Sp_plant_j33
  refine J_aload_n (pc' := 34) ok (dOf dX10_plant 16 rfl) rfl rfl rfl ?_
  refine J_iconst (v := (-1)) (pc' := 35) ok (dOf dX10_plant 17 rfl) rfl (by decide) ?_
  refine J_callVi (k2 := kSp_refuse) (ci := 10) (T := TX10) (N := 14) (as := [.int (-1)]) (pc' := 38) ok (dOf dX10_plant 18 rfl) rfl (cw_Sp_refuse (by decide) (by decide)) wml_X10_81 winst_X10_refuse wsel_X10_refuse rfl ⟨Nat.le_refl 0, Nat.le_refl 0⟩ (Nat.le_of_ble_eq_true rfl) rfl (fun _ _ hf => t_Sp_refuse hf) (fun x6 h5 => ?_)
  exact J_ireturn ok (dOf dX10_plant 19 rfl) rfl (Eq.refl 0) (Nat.le_refl 0)
def Sp_plant (v0 : Nat) (v1 : Int32) (v2 : Int32) (v3 : Int32) (h : AHeap) : Option (Int32 × AHeap) :=
  (gfR h v0 10 0).bind fun a1 => (gfR h a1 8 0).bind fun a2 => bnd2 (Sp_canBe 0 v1 h) fun x4 h3 => (if x4 = 0 then Sp_plant_j33 v0 v1 v2 v3 a2 h3 else bnd2 (Sp_canBe 1 v2 h3) fun x8 h7 => (if x8 = 0 then Sp_plant_j33 v0 v1 v2 v3 a2 h7 else bnd2 (Sp_canBe 2 v3 h7) fun x10 h9 => (if ¬ x10 = 0 then (gfI h9 a2 6 0).bind fun x11 => (if x11 < 4 then (gfR h9 v0 10 5).bind fun a12 => (gfR h9 v0 10 0).bind fun a13 => (chk h9 a12 5).bind fun _ => bnd2 (Hist_keep a12 a13 1 h9) fun _ h14 => (chk h14 a2 6).bind fun _ => bnd2 (Prog_addPlant a2 v1 v2 v3 h14) fun _ h15 => (gfR h15 v0 10 2).bind fun a16 => (gfR h15 a16 3 0).bind fun a17 => (chk h15 a17 0).bind fun _ => bnd2 (Book_forgetAll a17 h15) fun _ h18 => (chk h18 v0 10).bind fun _ => bnd2 (Sp_afterChange v0 h18) fun _ h19 => (gfI h19 a2 6 0).bind fun x20 => (chk h19 v0 10).bind fun _ => bnd2 (Sp_accept v0 (x20 - 1) h19) fun x22 h21 => some (x22, h21) else (chk h9 v0 10).bind fun _ => bnd2 (Sp_refuse v0 (-5) h9) fun x24 h23 => some (x24, h23)) else Sp_plant_j33 v0 v1 v2 v3 a2 h9)))
theorem t_Sp_plant {l : Launch} {G : GX} {v0 : Nat} {v1 : Int32} {v2 : Int32} {v3 : Int32} {h : AHeap} {v : Int32} {h1 : AHeap} (hf : Sp_plant v0 v1 v2 v3 h = some (v, h1)) : CT l G kSp_plant 0 0 [.ref v0, .int v1, .int v2, .int v3] h (some (.int v)) h1 := by
  refine CT_of (ls := [some (.ref v0), some (.int v1), some (.int v2), some (.int v3), none]) (Z := fun z => z = (v, h1)) (by decide +kernel) (Nat.le_of_ble_eq_true rfl) hf rfl ⟨rfl, rfl, rfl, rfl, trivial⟩ (fun E ok => ?_)
  unfold Sp_plant
  refine J_aload_n (pc' := 1) ok (dOf dX10_plant 0 rfl) rfl rfl rfl ?_
  refine J_getR (ci := 10) (kf := 0) (C := RX10) (T := TX10) (N := 14) (pc' := 4) ok (dOf dX10_plant 1 rfl) rfl (by decide) rfl (by decide) win_10 wfl_X10_10 (fun a1 => ?_)
  refine J_getR (ci := 8) (kf := 0) (C := RX8) (T := TX8) (N := 3) (pc' := 7) ok (dOf dX10_plant 2 rfl) rfl (by decide) rfl (by decide) win_8 wfl_X10_113 (fun a2 => ?_)
  refine J_astore (ls' := [some (.ref v0), some (.int v1), some (.int v2), some (.int v3), some (.ref a2)]) (pc' := 9) ok (dOf dX10_plant 3 rfl) rfl (Nat.le_of_ble_eq_true rfl) rfl rfl ?_
  refine J_iconst (v := 0) (pc' := 10) ok (dOf dX10_plant 4 rfl) rfl (by decide) ?_
  refine J_iload_n (pc' := 11) ok (dOf dX10_plant 5 rfl) rfl rfl rfl ?_
  refine J_callSi (k2 := kSp_canBe) (as := [.int 0, .int v1]) (pc' := 14) ok (dOf dX10_plant 6 rfl) rfl (cw_Sp_canBe (by decide) (by decide)) wml_X10_141 wstat_X10_canBe ⟨Nat.le_refl 0, Nat.le_refl 0⟩ (Nat.le_of_ble_eq_true rfl) rfl (fun _ _ hf => t_Sp_canBe hf) (fun x4 h3 => ?_)
  refine J_if_eq (tgt := 33) (pc' := 17) ok (dOf dX10_plant 7 rfl) rfl (by decide) ?_ ?_
  · exact Sp_plant_j33_J ok v0 v1 v2 v3 a2 h3
  · refine J_iconst (v := 1) (pc' := 18) ok (dOf dX10_plant 8 rfl) rfl (by decide) ?_
    refine J_iload_n (pc' := 19) ok (dOf dX10_plant 9 rfl) rfl rfl rfl ?_
    refine J_callSi (k2 := kSp_canBe) (as := [.int 1, .int v2]) (pc' := 22) ok (dOf dX10_plant 10 rfl) rfl (cw_Sp_canBe (by decide) (by decide)) wml_X10_141 wstat_X10_canBe ⟨Nat.le_refl 0, Nat.le_refl 0⟩ (Nat.le_of_ble_eq_true rfl) rfl (fun _ _ hf => t_Sp_canBe hf) (fun x8 h7 => ?_)
    refine J_if_eq (tgt := 33) (pc' := 25) ok (dOf dX10_plant 11 rfl) rfl (by decide) ?_ ?_
    · exact Sp_plant_j33_J ok v0 v1 v2 v3 a2 h7
    · refine J_iconst (v := 2) (pc' := 26) ok (dOf dX10_plant 12 rfl) rfl (by decide) ?_
      refine J_iload_n (pc' := 27) ok (dOf dX10_plant 13 rfl) rfl rfl rfl ?_
      refine J_callSi (k2 := kSp_canBe) (as := [.int 2, .int v3]) (pc' := 30) ok (dOf dX10_plant 14 rfl) rfl (cw_Sp_canBe (by decide) (by decide)) wml_X10_141 wstat_X10_canBe ⟨Nat.le_refl 0, Nat.le_refl 0⟩ (Nat.le_of_ble_eq_true rfl) rfl (fun _ _ hf => t_Sp_canBe hf) (fun x10 h9 => ?_)
      refine J_if_ne (tgt := 39) (pc' := 33) ok (dOf dX10_plant 15 rfl) rfl (by decide) ?_ ?_
      · refine J_aload (pc' := 41) ok (dOf dX10_plant 20 rfl) rfl rfl ?_
        refine J_getI (ci := 6) (kf := 0) (C := RX6) (T := TX6) (N := 9) (pc' := 44) ok (dOf dX10_plant 21 rfl) rfl (by decide) rfl (by decide) win_6 wfl_X10_145 (fun x11 => ?_)
        refine J_iconst (v := 4) (pc' := 45) ok (dOf dX10_plant 22 rfl) rfl (by decide) ?_
        refine J_icmp_lt (tgt := 55) (pc' := 48) ok (dOf dX10_plant 23 rfl) rfl (by decide) ?_ ?_
        · refine J_aload_n (pc' := 56) ok (dOf dX10_plant 28 rfl) rfl rfl rfl ?_
          refine J_getR (ci := 10) (kf := 5) (C := RX10) (T := TX10) (N := 14) (pc' := 59) ok (dOf dX10_plant 29 rfl) rfl (by decide) rfl (by decide) win_10 wfl_X10_44 (fun a12 => ?_)
          refine J_aload_n (pc' := 60) ok (dOf dX10_plant 30 rfl) rfl rfl rfl ?_
          refine J_getR (ci := 10) (kf := 0) (C := RX10) (T := TX10) (N := 14) (pc' := 63) ok (dOf dX10_plant 31 rfl) rfl (by decide) rfl (by decide) win_10 wfl_X10_10 (fun a13 => ?_)
          refine J_iconst (v := 1) (pc' := 64) ok (dOf dX10_plant 32 rfl) rfl (by decide) ?_
          refine J_callVv (k2 := kHist_keep) (ci := 5) (T := TX5) (N := 4) (as := [.ref a13, .int 1]) (pc' := 67) ok (dOf dX10_plant 33 rfl) rfl (cw_Hist_keep (by decide) (by decide)) wml_X10_109 winst_X5_keep wsel_X5_keep rfl ⟨Nat.le_refl 0, Nat.le_refl 0⟩ (Nat.le_of_ble_eq_true rfl) rfl (fun _ _ hf => t_Hist_keep hf) (fun _ h14 => ?_)
          refine J_aload (pc' := 69) ok (dOf dX10_plant 34 rfl) rfl rfl ?_
          refine J_iload_n (pc' := 70) ok (dOf dX10_plant 35 rfl) rfl rfl rfl ?_
          refine J_iload_n (pc' := 71) ok (dOf dX10_plant 36 rfl) rfl rfl rfl ?_
          refine J_iload_n (pc' := 72) ok (dOf dX10_plant 37 rfl) rfl rfl rfl ?_
          refine J_callVv (k2 := kProg_addPlant) (ci := 6) (T := TX6) (N := 9) (as := [.int v1, .int v2, .int v3]) (pc' := 75) ok (dOf dX10_plant 38 rfl) rfl (cw_Prog_addPlant (by decide) (by decide)) wml_X10_148 winst_X6_addPlant wsel_X6_addPlant rfl ⟨Nat.le_refl 0, Nat.le_refl 0⟩ (Nat.le_of_ble_eq_true rfl) rfl (fun _ _ hf => t_Prog_addPlant hf) (fun _ h15 => ?_)
          refine J_aload_n (pc' := 76) ok (dOf dX10_plant 39 rfl) rfl rfl rfl ?_
          refine J_getR (ci := 10) (kf := 2) (C := RX10) (T := TX10) (N := 14) (pc' := 79) ok (dOf dX10_plant 40 rfl) rfl (by decide) rfl (by decide) win_10 wfl_X10_23 (fun a16 => ?_)
          refine J_getR (ci := 3) (kf := 0) (C := RX3) (T := TX3) (N := 12) (pc' := 82) ok (dOf dX10_plant 41 rfl) rfl (by decide) rfl (by decide) win_3 wfl_X10_126 (fun a17 => ?_)
          refine J_callVv (k2 := kBook_forgetAll) (ci := 0) (T := TX0) (N := 2) (as := []) (pc' := 85) ok (dOf dX10_plant 42 rfl) rfl (cw_Book_forgetAll (by decide) (by decide)) wml_X10_130 winst_X0_forgetAll wsel_X0_forgetAll rfl ⟨Nat.le_refl 0, Nat.le_refl 0⟩ (Nat.le_of_ble_eq_true rfl) rfl (fun _ _ hf => t_Book_forgetAll hf) (fun _ h18 => ?_)
          refine J_aload_n (pc' := 86) ok (dOf dX10_plant 43 rfl) rfl rfl rfl ?_
          refine J_callVv (k2 := kSp_afterChange) (ci := 10) (T := TX10) (N := 14) (as := []) (pc' := 89) ok (dOf dX10_plant 44 rfl) rfl (cw_Sp_afterChange (by decide) (by decide)) wml_X10_135 winst_X10_afterChange wsel_X10_afterChange rfl ⟨Nat.le_refl 0, Nat.le_refl 0⟩ (Nat.le_of_ble_eq_true rfl) rfl (fun _ _ hf => t_Sp_afterChange hf) (fun _ h19 => ?_)
          refine J_aload_n (pc' := 90) ok (dOf dX10_plant 45 rfl) rfl rfl rfl ?_
          refine J_aload (pc' := 92) ok (dOf dX10_plant 46 rfl) rfl rfl ?_
          refine J_getI (ci := 6) (kf := 0) (C := RX6) (T := TX6) (N := 9) (pc' := 95) ok (dOf dX10_plant 47 rfl) rfl (by decide) rfl (by decide) win_6 wfl_X10_145 (fun x20 => ?_)
          refine J_iconst (v := 1) (pc' := 96) ok (dOf dX10_plant 48 rfl) rfl (by decide) ?_
          refine J_isub (pc' := 97) ok (dOf dX10_plant 49 rfl) rfl ?_
          refine J_callVi (k2 := kSp_accept) (ci := 10) (T := TX10) (N := 14) (as := [.int (x20 - 1)]) (pc' := 100) ok (dOf dX10_plant 50 rfl) rfl (cw_Sp_accept (by decide) (by decide)) wml_X10_91 winst_X10_accept wsel_X10_accept rfl ⟨Nat.le_refl 0, Nat.le_refl 0⟩ (Nat.le_of_ble_eq_true rfl) rfl (fun _ _ hf => t_Sp_accept hf) (fun x22 h21 => ?_)
          exact J_ireturn ok (dOf dX10_plant 51 rfl) rfl (Eq.refl 0) (Nat.le_refl 0)
        · refine J_aload_n (pc' := 49) ok (dOf dX10_plant 24 rfl) rfl rfl rfl ?_
          refine J_bipush (v := (-5)) (pc' := 51) ok (dOf dX10_plant 25 rfl) rfl (by decide) ?_
          refine J_callVi (k2 := kSp_refuse) (ci := 10) (T := TX10) (N := 14) (as := [.int (-5)]) (pc' := 54) ok (dOf dX10_plant 26 rfl) rfl (cw_Sp_refuse (by decide) (by decide)) wml_X10_81 winst_X10_refuse wsel_X10_refuse rfl ⟨Nat.le_refl 0, Nat.le_refl 0⟩ (Nat.le_of_ble_eq_true rfl) rfl (fun _ _ hf => t_Sp_refuse hf) (fun x24 h23 => ?_)
          exact J_ireturn ok (dOf dX10_plant 27 rfl) rfl (Eq.refl 0) (Nat.le_refl 0)
      · exact Sp_plant_j33_J ok v0 v1 v2 v3 a2 h9
-- X10_site
abbrev kSp_site : Cd := (yX10_site, cX10_site, 2, (some .int), 4, 110)
theorem dX10_site : dcheck cX10_site [(0, .aload_n 0, 1), (1, .getfield 10, 3), (4, .getfield 113, 3), (7, .astore_n 1, 1), (8, .aload_n 1, 1), (9, .getfield 152, 3), (12, .bipush 6, 2), (14, .if_icmp .lt 10, 3), (17, .aload_n 0, 1), (18, .bipush (-5), 2), (20, .invokevirtual 81, 3), (23, .ireturn, 1), (24, .aload_n 0, 1), (25, .getfield 44, 3), (28, .aload_n 0, 1), (29, .getfield 10, 3), (32, .iconst 2, 1), (33, .invokevirtual 109, 3), (36, .aload_n 1, 1), (37, .dup, 1), (38, .getfield 152, 3), (41, .iconst 1, 1), (42, .iadd, 1), (43, .putfield 152, 3), (46, .aload_n 0, 1), (47, .getfield 23, 3), (50, .getfield 126, 3), (53, .invokevirtual 130, 3), (56, .aload_n 0, 1), (57, .invokevirtual 135, 3), (60, .aload_n 0, 1), (61, .aload_n 1, 1), (62, .getfield 152, 3), (65, .iconst 1, 1), (66, .isub, 1), (67, .invokevirtual 91, 3), (70, .ireturn, 1)] = true := by decide +kernel
theorem cw_Sp_site {k : Cd} (h1 : kSp_site.2.2.2.2.1 + 1 ≤ k.2.2.2.2.1) (h2 : 8 + (kSp_site.2.2.1 + 11) + kSp_site.2.2.2.2.2 ≤ k.2.2.2.2.2) : Cw k kSp_site 0 := ⟨wcode_X10_site, wini_SplitProgram, ⟨by decide, by decide, by decide +kernel⟩, h1, h2⟩
def Sp_site (v0 : Nat) (h : AHeap) : Option (Int32 × AHeap) :=
  (gfR h v0 10 0).bind fun a1 => (gfR h a1 8 0).bind fun a2 => (gfI h a2 6 1).bind fun x3 => (if x3 < 6 then (gfR h v0 10 5).bind fun a4 => (gfR h v0 10 0).bind fun a5 => (chk h a4 5).bind fun _ => bnd2 (Hist_keep a4 a5 2 h) fun _ h6 => (gfI h6 a2 6 1).bind fun x7 => (pfV h6 a2 6 1 (.int (x7 + 1))).bind fun h8 => (gfR h8 v0 10 2).bind fun a9 => (gfR h8 a9 3 0).bind fun a10 => (chk h8 a10 0).bind fun _ => bnd2 (Book_forgetAll a10 h8) fun _ h11 => (chk h11 v0 10).bind fun _ => bnd2 (Sp_afterChange v0 h11) fun _ h12 => (gfI h12 a2 6 1).bind fun x13 => (chk h12 v0 10).bind fun _ => bnd2 (Sp_accept v0 (x13 - 1) h12) fun x15 h14 => some (x15, h14) else (chk h v0 10).bind fun _ => bnd2 (Sp_refuse v0 (-5) h) fun x17 h16 => some (x17, h16))
theorem t_Sp_site {l : Launch} {G : GX} {v0 : Nat} {h : AHeap} {v : Int32} {h1 : AHeap} (hf : Sp_site v0 h = some (v, h1)) : CT l G kSp_site 0 0 [.ref v0] h (some (.int v)) h1 := by
  refine CT_of (ls := [some (.ref v0), none]) (Z := fun z => z = (v, h1)) (by decide +kernel) (Nat.le_of_ble_eq_true rfl) hf rfl ⟨rfl, trivial⟩ (fun E ok => ?_)
  unfold Sp_site
  refine J_aload_n (pc' := 1) ok (dOf dX10_site 0 rfl) rfl rfl rfl ?_
  refine J_getR (ci := 10) (kf := 0) (C := RX10) (T := TX10) (N := 14) (pc' := 4) ok (dOf dX10_site 1 rfl) rfl (by decide) rfl (by decide) win_10 wfl_X10_10 (fun a1 => ?_)
  refine J_getR (ci := 8) (kf := 0) (C := RX8) (T := TX8) (N := 3) (pc' := 7) ok (dOf dX10_site 2 rfl) rfl (by decide) rfl (by decide) win_8 wfl_X10_113 (fun a2 => ?_)
  refine J_astore_n (ls' := [some (.ref v0), some (.ref a2)]) (pc' := 8) ok (dOf dX10_site 3 rfl) rfl rfl (Nat.le_of_ble_eq_true rfl) rfl rfl ?_
  refine J_aload_n (pc' := 9) ok (dOf dX10_site 4 rfl) rfl rfl rfl ?_
  refine J_getI (ci := 6) (kf := 1) (C := RX6) (T := TX6) (N := 9) (pc' := 12) ok (dOf dX10_site 5 rfl) rfl (by decide) rfl (by decide) win_6 wfl_X10_152 (fun x3 => ?_)
  refine J_bipush (v := 6) (pc' := 14) ok (dOf dX10_site 6 rfl) rfl (by decide) ?_
  refine J_icmp_lt (tgt := 24) (pc' := 17) ok (dOf dX10_site 7 rfl) rfl (by decide) ?_ ?_
  · refine J_aload_n (pc' := 25) ok (dOf dX10_site 12 rfl) rfl rfl rfl ?_
    refine J_getR (ci := 10) (kf := 5) (C := RX10) (T := TX10) (N := 14) (pc' := 28) ok (dOf dX10_site 13 rfl) rfl (by decide) rfl (by decide) win_10 wfl_X10_44 (fun a4 => ?_)
    refine J_aload_n (pc' := 29) ok (dOf dX10_site 14 rfl) rfl rfl rfl ?_
    refine J_getR (ci := 10) (kf := 0) (C := RX10) (T := TX10) (N := 14) (pc' := 32) ok (dOf dX10_site 15 rfl) rfl (by decide) rfl (by decide) win_10 wfl_X10_10 (fun a5 => ?_)
    refine J_iconst (v := 2) (pc' := 33) ok (dOf dX10_site 16 rfl) rfl (by decide) ?_
    refine J_callVv (k2 := kHist_keep) (ci := 5) (T := TX5) (N := 4) (as := [.ref a5, .int 2]) (pc' := 36) ok (dOf dX10_site 17 rfl) rfl (cw_Hist_keep (by decide) (by decide)) wml_X10_109 winst_X5_keep wsel_X5_keep rfl ⟨Nat.le_refl 0, Nat.le_refl 0⟩ (Nat.le_of_ble_eq_true rfl) rfl (fun _ _ hf => t_Hist_keep hf) (fun _ h6 => ?_)
    refine J_aload_n (pc' := 37) ok (dOf dX10_site 18 rfl) rfl rfl rfl ?_
    refine J_dup (pc' := 38) ok (dOf dX10_site 19 rfl) rfl rfl ?_
    refine J_getI (ci := 6) (kf := 1) (C := RX6) (T := TX6) (N := 9) (pc' := 41) ok (dOf dX10_site 20 rfl) rfl (by decide) rfl (by decide) win_6 wfl_X10_152 (fun x7 => ?_)
    refine J_iconst (v := 1) (pc' := 42) ok (dOf dX10_site 21 rfl) rfl (by decide) ?_
    refine J_iadd (pc' := 43) ok (dOf dX10_site 22 rfl) rfl ?_
    refine J_putI (ci := 6) (kf := 1) (C := RX6) (T := TX6) (N := 9) (pc' := 46) ok tyX6 (dOf dX10_site 23 rfl) rfl rfl (by decide) win_6 tyX6_ok nmX6 rfl rfl wfl_X10_152 (fun h8 _ => ?_)
    refine J_aload_n (pc' := 47) ok (dOf dX10_site 24 rfl) rfl rfl rfl ?_
    refine J_getR (ci := 10) (kf := 2) (C := RX10) (T := TX10) (N := 14) (pc' := 50) ok (dOf dX10_site 25 rfl) rfl (by decide) rfl (by decide) win_10 wfl_X10_23 (fun a9 => ?_)
    refine J_getR (ci := 3) (kf := 0) (C := RX3) (T := TX3) (N := 12) (pc' := 53) ok (dOf dX10_site 26 rfl) rfl (by decide) rfl (by decide) win_3 wfl_X10_126 (fun a10 => ?_)
    refine J_callVv (k2 := kBook_forgetAll) (ci := 0) (T := TX0) (N := 2) (as := []) (pc' := 56) ok (dOf dX10_site 27 rfl) rfl (cw_Book_forgetAll (by decide) (by decide)) wml_X10_130 winst_X0_forgetAll wsel_X0_forgetAll rfl ⟨Nat.le_refl 0, Nat.le_refl 0⟩ (Nat.le_of_ble_eq_true rfl) rfl (fun _ _ hf => t_Book_forgetAll hf) (fun _ h11 => ?_)
    refine J_aload_n (pc' := 57) ok (dOf dX10_site 28 rfl) rfl rfl rfl ?_
    refine J_callVv (k2 := kSp_afterChange) (ci := 10) (T := TX10) (N := 14) (as := []) (pc' := 60) ok (dOf dX10_site 29 rfl) rfl (cw_Sp_afterChange (by decide) (by decide)) wml_X10_135 winst_X10_afterChange wsel_X10_afterChange rfl ⟨Nat.le_refl 0, Nat.le_refl 0⟩ (Nat.le_of_ble_eq_true rfl) rfl (fun _ _ hf => t_Sp_afterChange hf) (fun _ h12 => ?_)
    refine J_aload_n (pc' := 61) ok (dOf dX10_site 30 rfl) rfl rfl rfl ?_
    refine J_aload_n (pc' := 62) ok (dOf dX10_site 31 rfl) rfl rfl rfl ?_
    refine J_getI (ci := 6) (kf := 1) (C := RX6) (T := TX6) (N := 9) (pc' := 65) ok (dOf dX10_site 32 rfl) rfl (by decide) rfl (by decide) win_6 wfl_X10_152 (fun x13 => ?_)
    refine J_iconst (v := 1) (pc' := 66) ok (dOf dX10_site 33 rfl) rfl (by decide) ?_
    refine J_isub (pc' := 67) ok (dOf dX10_site 34 rfl) rfl ?_
    refine J_callVi (k2 := kSp_accept) (ci := 10) (T := TX10) (N := 14) (as := [.int (x13 - 1)]) (pc' := 70) ok (dOf dX10_site 35 rfl) rfl (cw_Sp_accept (by decide) (by decide)) wml_X10_91 winst_X10_accept wsel_X10_accept rfl ⟨Nat.le_refl 0, Nat.le_refl 0⟩ (Nat.le_of_ble_eq_true rfl) rfl (fun _ _ hf => t_Sp_accept hf) (fun x15 h14 => ?_)
    exact J_ireturn ok (dOf dX10_site 36 rfl) rfl (Eq.refl 0) (Nat.le_refl 0)
  · refine J_aload_n (pc' := 18) ok (dOf dX10_site 8 rfl) rfl rfl rfl ?_
    refine J_bipush (v := (-5)) (pc' := 20) ok (dOf dX10_site 9 rfl) rfl (by decide) ?_
    refine J_callVi (k2 := kSp_refuse) (ci := 10) (T := TX10) (N := 14) (as := [.int (-5)]) (pc' := 23) ok (dOf dX10_site 10 rfl) rfl (cw_Sp_refuse (by decide) (by decide)) wml_X10_81 winst_X10_refuse wsel_X10_refuse rfl ⟨Nat.le_refl 0, Nat.le_refl 0⟩ (Nat.le_of_ble_eq_true rfl) rfl (fun _ _ hf => t_Sp_refuse hf) (fun x17 h16 => ?_)
    exact J_ireturn ok (dOf dX10_site 11 rfl) rfl (Eq.refl 0) (Nat.le_refl 0)
-- X6_hasPlant
abbrev kProg_hasPlant : Cd := (yX6_hasPlant, cX6_hasPlant, 2, (some .boolean), 0, 0)
theorem dX6_hasPlant : dcheck cX6_hasPlant [(0, .iload_n 1, 1), (1, .ifCond .lt 15, 3), (4, .iload_n 1, 1), (5, .aload_n 0, 1), (6, .getfield 36, 3), (9, .if_icmp .ge 7, 3), (12, .iconst 1, 1), (13, .goto 4, 3), (16, .iconst 0, 1), (17, .ireturn, 1)] = true := by decide +kernel
theorem cw_Prog_hasPlant {k : Cd} (h1 : kProg_hasPlant.2.2.2.2.1 + 1 ≤ k.2.2.2.2.1) (h2 : 8 + (kProg_hasPlant.2.2.1 + 11) + kProg_hasPlant.2.2.2.2.2 ≤ k.2.2.2.2.2) : Cw k kProg_hasPlant 1 := ⟨wcode_X6_hasPlant, wini_SplitProgram_Program, ⟨by decide, by decide, by decide +kernel⟩, h1, h2⟩
def Prog_hasPlant_j17 (v0 : Nat) (v1 : Int32) (t0 : Int32) (h : AHeap) : Option (Int32 × AHeap) :=
  (bz t0).bind fun z => some (z, h)
theorem Prog_hasPlant_j17_J {E : JE} {l : Launch} {G : GX} {v : Int32} {h' : AHeap} (ok : JOK E l G kProg_hasPlant 0 0 (some (.int v)) h') (v0 : Nat) (v1 : Int32) (t0 : Int32) (h : AHeap) : J E kProg_hasPlant (Prog_hasPlant_j17 v0 v1 t0 h) (fun z => z = (v, h')) 17 [some (.ref v0), some (.int v1)] [.int t0] h 0 0 := by
  unfold Prog_hasPlant_j17
  exact J_zreturn ok (dOf dX6_hasPlant 9 rfl) rfl (Eq.refl 0) (Nat.le_refl 0)
def Prog_hasPlant_j16 (v0 : Nat) (v1 : Int32) (h : AHeap) : Option (Int32 × AHeap) :=
  Prog_hasPlant_j17 v0 v1 0 h
theorem Prog_hasPlant_j16_J {E : JE} {l : Launch} {G : GX} {v : Int32} {h' : AHeap} (ok : JOK E l G kProg_hasPlant 0 0 (some (.int v)) h') (v0 : Nat) (v1 : Int32) (h : AHeap) : J E kProg_hasPlant (Prog_hasPlant_j16 v0 v1 h) (fun z => z = (v, h')) 16 [some (.ref v0), some (.int v1)] [] h 0 0 := by
  unfold Prog_hasPlant_j16
  refine J_iconst (v := 0) (pc' := 17) ok (dOf dX6_hasPlant 8 rfl) rfl (by decide) ?_
  exact Prog_hasPlant_j17_J ok v0 v1 0 h
def Prog_hasPlant (v0 : Nat) (v1 : Int32) (h : AHeap) : Option (Int32 × AHeap) :=
  (if v1 < 0 then Prog_hasPlant_j16 v0 v1 h else (gfI h v0 6 0).bind fun x1 => (if x1 ≤ v1 then Prog_hasPlant_j16 v0 v1 h else Prog_hasPlant_j17 v0 v1 1 h))
theorem t_Prog_hasPlant {l : Launch} {G : GX} {v0 : Nat} {v1 : Int32} {h : AHeap} {v : Int32} {h1 : AHeap} (hf : Prog_hasPlant v0 v1 h = some (v, h1)) : CT l G kProg_hasPlant 0 0 [.ref v0, .int v1] h (some (.int v)) h1 := by
  refine CT_of (ls := [some (.ref v0), some (.int v1)]) (Z := fun z => z = (v, h1)) (by decide +kernel) (Nat.le_of_ble_eq_true rfl) hf rfl ⟨rfl, rfl, trivial⟩ (fun E ok => ?_)
  unfold Prog_hasPlant
  refine J_iload_n (pc' := 1) ok (dOf dX6_hasPlant 0 rfl) rfl rfl rfl ?_
  refine J_if_lt (tgt := 16) (pc' := 4) ok (dOf dX6_hasPlant 1 rfl) rfl (by decide) ?_ ?_
  · exact Prog_hasPlant_j16_J ok v0 v1 h
  · refine J_iload_n (pc' := 5) ok (dOf dX6_hasPlant 2 rfl) rfl rfl rfl ?_
    refine J_aload_n (pc' := 6) ok (dOf dX6_hasPlant 3 rfl) rfl rfl rfl ?_
    refine J_getI (ci := 6) (kf := 0) (C := RX6) (T := TX6) (N := 9) (pc' := 9) ok (dOf dX6_hasPlant 4 rfl) rfl (by decide) rfl (by decide) win_6 wfl_X6_36 (fun x1 => ?_)
    refine J_icmp_ge (tgt := 16) (pc' := 12) ok (dOf dX6_hasPlant 5 rfl) rfl (by decide) ?_ ?_
    · exact Prog_hasPlant_j16_J ok v0 v1 h
    · refine J_iconst (v := 1) (pc' := 13) ok (dOf dX6_hasPlant 6 rfl) rfl (by decide) ?_
      refine J_goto (tgt := 17) ok (dOf dX6_hasPlant 7 rfl) (by decide) ?_
      exact Prog_hasPlant_j17_J ok v0 v1 1 h
-- X6_hasSite
abbrev kProg_hasSite : Cd := (yX6_hasSite, cX6_hasSite, 2, (some .boolean), 0, 0)
theorem dX6_hasSite : dcheck cX6_hasSite [(0, .iload_n 1, 1), (1, .ifCond .lt 15, 3), (4, .iload_n 1, 1), (5, .aload_n 0, 1), (6, .getfield 40, 3), (9, .if_icmp .ge 7, 3), (12, .iconst 1, 1), (13, .goto 4, 3), (16, .iconst 0, 1), (17, .ireturn, 1)] = true := by decide +kernel
theorem cw_Prog_hasSite {k : Cd} (h1 : kProg_hasSite.2.2.2.2.1 + 1 ≤ k.2.2.2.2.1) (h2 : 8 + (kProg_hasSite.2.2.1 + 11) + kProg_hasSite.2.2.2.2.2 ≤ k.2.2.2.2.2) : Cw k kProg_hasSite 1 := ⟨wcode_X6_hasSite, wini_SplitProgram_Program, ⟨by decide, by decide, by decide +kernel⟩, h1, h2⟩
def Prog_hasSite_j17 (v0 : Nat) (v1 : Int32) (t0 : Int32) (h : AHeap) : Option (Int32 × AHeap) :=
  (bz t0).bind fun z => some (z, h)
theorem Prog_hasSite_j17_J {E : JE} {l : Launch} {G : GX} {v : Int32} {h' : AHeap} (ok : JOK E l G kProg_hasSite 0 0 (some (.int v)) h') (v0 : Nat) (v1 : Int32) (t0 : Int32) (h : AHeap) : J E kProg_hasSite (Prog_hasSite_j17 v0 v1 t0 h) (fun z => z = (v, h')) 17 [some (.ref v0), some (.int v1)] [.int t0] h 0 0 := by
  unfold Prog_hasSite_j17
  exact J_zreturn ok (dOf dX6_hasSite 9 rfl) rfl (Eq.refl 0) (Nat.le_refl 0)
def Prog_hasSite_j16 (v0 : Nat) (v1 : Int32) (h : AHeap) : Option (Int32 × AHeap) :=
  Prog_hasSite_j17 v0 v1 0 h
theorem Prog_hasSite_j16_J {E : JE} {l : Launch} {G : GX} {v : Int32} {h' : AHeap} (ok : JOK E l G kProg_hasSite 0 0 (some (.int v)) h') (v0 : Nat) (v1 : Int32) (h : AHeap) : J E kProg_hasSite (Prog_hasSite_j16 v0 v1 h) (fun z => z = (v, h')) 16 [some (.ref v0), some (.int v1)] [] h 0 0 := by
  unfold Prog_hasSite_j16
  refine J_iconst (v := 0) (pc' := 17) ok (dOf dX6_hasSite 8 rfl) rfl (by decide) ?_
  exact Prog_hasSite_j17_J ok v0 v1 0 h
def Prog_hasSite (v0 : Nat) (v1 : Int32) (h : AHeap) : Option (Int32 × AHeap) :=
  (if v1 < 0 then Prog_hasSite_j16 v0 v1 h else (gfI h v0 6 1).bind fun x1 => (if x1 ≤ v1 then Prog_hasSite_j16 v0 v1 h else Prog_hasSite_j17 v0 v1 1 h))
theorem t_Prog_hasSite {l : Launch} {G : GX} {v0 : Nat} {v1 : Int32} {h : AHeap} {v : Int32} {h1 : AHeap} (hf : Prog_hasSite v0 v1 h = some (v, h1)) : CT l G kProg_hasSite 0 0 [.ref v0, .int v1] h (some (.int v)) h1 := by
  refine CT_of (ls := [some (.ref v0), some (.int v1)]) (Z := fun z => z = (v, h1)) (by decide +kernel) (Nat.le_of_ble_eq_true rfl) hf rfl ⟨rfl, rfl, trivial⟩ (fun E ok => ?_)
  unfold Prog_hasSite
  refine J_iload_n (pc' := 1) ok (dOf dX6_hasSite 0 rfl) rfl rfl rfl ?_
  refine J_if_lt (tgt := 16) (pc' := 4) ok (dOf dX6_hasSite 1 rfl) rfl (by decide) ?_ ?_
  · exact Prog_hasSite_j16_J ok v0 v1 h
  · refine J_iload_n (pc' := 5) ok (dOf dX6_hasSite 2 rfl) rfl rfl rfl ?_
    refine J_aload_n (pc' := 6) ok (dOf dX6_hasSite 3 rfl) rfl rfl rfl ?_
    refine J_getI (ci := 6) (kf := 1) (C := RX6) (T := TX6) (N := 9) (pc' := 9) ok (dOf dX6_hasSite 4 rfl) rfl (by decide) rfl (by decide) win_6 wfl_X6_40 (fun x1 => ?_)
    refine J_icmp_ge (tgt := 16) (pc' := 12) ok (dOf dX6_hasSite 5 rfl) rfl (by decide) ?_ ?_
    · exact Prog_hasSite_j16_J ok v0 v1 h
    · refine J_iconst (v := 1) (pc' := 13) ok (dOf dX6_hasSite 6 rfl) rfl (by decide) ?_
      refine J_goto (tgt := 17) ok (dOf dX6_hasSite 7 rfl) (by decide) ?_
      exact Prog_hasSite_j17_J ok v0 v1 1 h
-- X10_road
abbrev kSp_road : Cd := (yX10_road, cX10_road, 7, (some .int), 4, 110)
theorem dX10_road : dcheck cX10_road [(0, .aload_n 0, 1), (1, .getfield 10, 3), (4, .getfield 113, 3), (7, .astore 4, 2), (9, .iload_n 3, 1), (10, .iconst (-1), 1), (11, .if_icmp .lt 9, 3), (14, .iload_n 3, 1), (15, .bipush 99, 2), (17, .if_icmp .le 9, 3), (20, .aload_n 0, 1), (21, .iconst (-1), 1), (22, .invokevirtual 81, 3), (25, .ireturn, 1), (26, .aload 4, 2), (28, .iload_n 1, 1), (29, .invokevirtual 155, 3), (32, .ifCond .eq 12, 3), (35, .aload 4, 2), (37, .iload_n 2, 1), (38, .invokevirtual 159, 3), (41, .ifCond .ne 10, 3), (44, .aload_n 0, 1), (45, .bipush (-2), 2), (47, .invokevirtual 81, 3), (50, .ireturn, 1), (51, .iload_n 1, 1), (52, .bipush 6, 2), (54, .imul, 1), (55, .iload_n 2, 1), (56, .iadd, 1), (57, .istore 5, 2), (59, .aload 4, 2), (61, .getfield 162, 3), (64, .iload 5, 2), (66, .iaload, 1), (67, .istore 6, 2), (69, .iload 6, 2), (71, .iload_n 3, 1), (72, .if_icmp .ne 10, 3), (75, .aload_n 0, 1), (76, .bipush (-4), 2), (78, .invokevirtual 81, 3), (81, .ireturn, 1), (82, .aload_n 0, 1), (83, .getfield 44, 3), (86, .aload_n 0, 1), (87, .getfield 10, 3), (90, .iconst 3, 1), (91, .invokevirtual 109, 3), (94, .aload 4, 2), (96, .getfield 162, 3), (99, .iload 5, 2), (101, .iload_n 3, 1), (102, .iastore, 1), (103, .aload_n 0, 1), (104, .getfield 23, 3), (107, .getfield 126, 3), (110, .invokevirtual 130, 3), (113, .aload_n 0, 1), (114, .invokevirtual 135, 3), (117, .aload_n 0, 1), (118, .iload 6, 2), (120, .iconst 1, 1), (121, .iadd, 1), (122, .invokevirtual 91, 3), (125, .ireturn, 1)] = true := by decide +kernel
theorem cw_Sp_road {k : Cd} (h1 : kSp_road.2.2.2.2.1 + 1 ≤ k.2.2.2.2.1) (h2 : 8 + (kSp_road.2.2.1 + 11) + kSp_road.2.2.2.2.2 ≤ k.2.2.2.2.2) : Cw k kSp_road 3 := ⟨wcode_X10_road, wini_SplitProgram, ⟨by decide, by decide, by decide +kernel⟩, h1, h2⟩
def Sp_road_j20 (v0 : Nat) (v1 : Int32) (v2 : Int32) (v3 : Int32) (v4 : Nat) (h : AHeap) : Option (Int32 × AHeap) :=
  (chk h v0 10).bind fun _ => bnd2 (Sp_refuse v0 (-1) h) fun x4 h3 => some (x4, h3)
theorem Sp_road_j20_J {E : JE} {l : Launch} {G : GX} {v : Int32} {h' : AHeap} (ok : JOK E l G kSp_road 0 0 (some (.int v)) h') (v0 : Nat) (v1 : Int32) (v2 : Int32) (v3 : Int32) (v4 : Nat) (h : AHeap) : J E kSp_road (Sp_road_j20 v0 v1 v2 v3 v4 h) (fun z => z = (v, h')) 20 [some (.ref v0), some (.int v1), some (.int v2), some (.int v3), some (.ref v4), none, none] [] h 0 0 := by
  unfold Sp_road_j20
  refine J_aload_n (pc' := 21) ok (dOf dX10_road 10 rfl) rfl rfl rfl ?_
  refine J_iconst (v := (-1)) (pc' := 22) ok (dOf dX10_road 11 rfl) rfl (by decide) ?_
  refine J_callVi (k2 := kSp_refuse) (ci := 10) (T := TX10) (N := 14) (as := [.int (-1)]) (pc' := 25) ok (dOf dX10_road 12 rfl) rfl (cw_Sp_refuse (by decide) (by decide)) wml_X10_81 winst_X10_refuse wsel_X10_refuse rfl ⟨Nat.le_refl 0, Nat.le_refl 0⟩ (Nat.le_of_ble_eq_true rfl) rfl (fun _ _ hf => t_Sp_refuse hf) (fun x4 h3 => ?_)
  exact J_ireturn ok (dOf dX10_road 13 rfl) rfl (Eq.refl 0) (Nat.le_refl 0)
def Sp_road_j44 (v0 : Nat) (v1 : Int32) (v2 : Int32) (v3 : Int32) (v4 : Nat) (h : AHeap) : Option (Int32 × AHeap) :=
  (chk h v0 10).bind fun _ => bnd2 (Sp_refuse v0 (-2) h) fun x8 h7 => some (x8, h7)
theorem Sp_road_j44_J {E : JE} {l : Launch} {G : GX} {v : Int32} {h' : AHeap} (ok : JOK E l G kSp_road 0 0 (some (.int v)) h') (v0 : Nat) (v1 : Int32) (v2 : Int32) (v3 : Int32) (v4 : Nat) (h : AHeap) : J E kSp_road (Sp_road_j44 v0 v1 v2 v3 v4 h) (fun z => z = (v, h')) 44 [some (.ref v0), some (.int v1), some (.int v2), some (.int v3), some (.ref v4), none, none] [] h 0 0 := by
  unfold Sp_road_j44
  refine J_aload_n (pc' := 45) ok (dOf dX10_road 22 rfl) rfl rfl rfl ?_
  refine J_bipush (v := (-2)) (pc' := 47) ok (dOf dX10_road 23 rfl) rfl (by decide) ?_
  refine J_callVi (k2 := kSp_refuse) (ci := 10) (T := TX10) (N := 14) (as := [.int (-2)]) (pc' := 50) ok (dOf dX10_road 24 rfl) rfl (cw_Sp_refuse (by decide) (by decide)) wml_X10_81 winst_X10_refuse wsel_X10_refuse rfl ⟨Nat.le_refl 0, Nat.le_refl 0⟩ (Nat.le_of_ble_eq_true rfl) rfl (fun _ _ hf => t_Sp_refuse hf) (fun x8 h7 => ?_)
  exact J_ireturn ok (dOf dX10_road 25 rfl) rfl (Eq.refl 0) (Nat.le_refl 0)
def Sp_road (v0 : Nat) (v1 : Int32) (v2 : Int32) (v3 : Int32) (h : AHeap) : Option (Int32 × AHeap) :=
  (gfR h v0 10 0).bind fun a1 => (gfR h a1 8 0).bind fun a2 => (if v3 < (-1) then Sp_road_j20 v0 v1 v2 v3 a2 h else (if v3 ≤ 99 then (chk h a2 6).bind fun _ => bnd2 (Prog_hasPlant a2 v1 h) fun x6 h5 => (if x6 = 0 then Sp_road_j44 v0 v1 v2 v3 a2 h5 else (chk h5 a2 6).bind fun _ => bnd2 (Prog_hasSite a2 v2 h5) fun x10 h9 => (if ¬ x10 = 0 then (gfR h9 a2 6 6).bind fun a11 => (ald 0 h9 a11 ((v1 * 6) + v2)).bind fun x12 => (if ¬ x12 = v3 then (gfR h9 v0 10 5).bind fun a13 => (gfR h9 v0 10 0).bind fun a14 => (chk h9 a13 5).bind fun _ => bnd2 (Hist_keep a13 a14 3 h9) fun _ h15 => (gfR h15 a2 6 6).bind fun a16 => (ast 0 h15 a16 ((v1 * 6) + v2) v3).bind fun h17 => (gfR h17 v0 10 2).bind fun a18 => (gfR h17 a18 3 0).bind fun a19 => (chk h17 a19 0).bind fun _ => bnd2 (Book_forgetAll a19 h17) fun _ h20 => (chk h20 v0 10).bind fun _ => bnd2 (Sp_afterChange v0 h20) fun _ h21 => (chk h21 v0 10).bind fun _ => bnd2 (Sp_accept v0 (x12 + 1) h21) fun x23 h22 => some (x23, h22) else (chk h9 v0 10).bind fun _ => bnd2 (Sp_refuse v0 (-4) h9) fun x25 h24 => some (x25, h24)) else Sp_road_j44 v0 v1 v2 v3 a2 h9)) else Sp_road_j20 v0 v1 v2 v3 a2 h))
theorem t_Sp_road {l : Launch} {G : GX} {v0 : Nat} {v1 : Int32} {v2 : Int32} {v3 : Int32} {h : AHeap} {v : Int32} {h1 : AHeap} (hf : Sp_road v0 v1 v2 v3 h = some (v, h1)) : CT l G kSp_road 0 0 [.ref v0, .int v1, .int v2, .int v3] h (some (.int v)) h1 := by
  refine CT_of (ls := [some (.ref v0), some (.int v1), some (.int v2), some (.int v3), none, none, none]) (Z := fun z => z = (v, h1)) (by decide +kernel) (Nat.le_of_ble_eq_true rfl) hf rfl ⟨rfl, rfl, rfl, rfl, trivial⟩ (fun E ok => ?_)
  unfold Sp_road
  refine J_aload_n (pc' := 1) ok (dOf dX10_road 0 rfl) rfl rfl rfl ?_
  refine J_getR (ci := 10) (kf := 0) (C := RX10) (T := TX10) (N := 14) (pc' := 4) ok (dOf dX10_road 1 rfl) rfl (by decide) rfl (by decide) win_10 wfl_X10_10 (fun a1 => ?_)
  refine J_getR (ci := 8) (kf := 0) (C := RX8) (T := TX8) (N := 3) (pc' := 7) ok (dOf dX10_road 2 rfl) rfl (by decide) rfl (by decide) win_8 wfl_X10_113 (fun a2 => ?_)
  refine J_astore (ls' := [some (.ref v0), some (.int v1), some (.int v2), some (.int v3), some (.ref a2), none, none]) (pc' := 9) ok (dOf dX10_road 3 rfl) rfl (Nat.le_of_ble_eq_true rfl) rfl rfl ?_
  refine J_iload_n (pc' := 10) ok (dOf dX10_road 4 rfl) rfl rfl rfl ?_
  refine J_iconst (v := (-1)) (pc' := 11) ok (dOf dX10_road 5 rfl) rfl (by decide) ?_
  refine J_icmp_lt (tgt := 20) (pc' := 14) ok (dOf dX10_road 6 rfl) rfl (by decide) ?_ ?_
  · exact Sp_road_j20_J ok v0 v1 v2 v3 a2 h
  · refine J_iload_n (pc' := 15) ok (dOf dX10_road 7 rfl) rfl rfl rfl ?_
    refine J_bipush (v := 99) (pc' := 17) ok (dOf dX10_road 8 rfl) rfl (by decide) ?_
    refine J_icmp_le (tgt := 26) (pc' := 20) ok (dOf dX10_road 9 rfl) rfl (by decide) ?_ ?_
    · refine J_aload (pc' := 28) ok (dOf dX10_road 14 rfl) rfl rfl ?_
      refine J_iload_n (pc' := 29) ok (dOf dX10_road 15 rfl) rfl rfl rfl ?_
      refine J_callVi (k2 := kProg_hasPlant) (ci := 6) (T := TX6) (N := 9) (as := [.int v1]) (pc' := 32) ok (dOf dX10_road 16 rfl) rfl (cw_Prog_hasPlant (by decide) (by decide)) wml_X10_155 winst_X6_hasPlant wsel_X6_hasPlant rfl ⟨Nat.le_refl 0, Nat.le_refl 0⟩ (Nat.le_of_ble_eq_true rfl) rfl (fun _ _ hf => t_Prog_hasPlant hf) (fun x6 h5 => ?_)
      refine J_if_eq (tgt := 44) (pc' := 35) ok (dOf dX10_road 17 rfl) rfl (by decide) ?_ ?_
      · exact Sp_road_j44_J ok v0 v1 v2 v3 a2 h5
      · refine J_aload (pc' := 37) ok (dOf dX10_road 18 rfl) rfl rfl ?_
        refine J_iload_n (pc' := 38) ok (dOf dX10_road 19 rfl) rfl rfl rfl ?_
        refine J_callVi (k2 := kProg_hasSite) (ci := 6) (T := TX6) (N := 9) (as := [.int v2]) (pc' := 41) ok (dOf dX10_road 20 rfl) rfl (cw_Prog_hasSite (by decide) (by decide)) wml_X10_159 winst_X6_hasSite wsel_X6_hasSite rfl ⟨Nat.le_refl 0, Nat.le_refl 0⟩ (Nat.le_of_ble_eq_true rfl) rfl (fun _ _ hf => t_Prog_hasSite hf) (fun x10 h9 => ?_)
        refine J_if_ne (tgt := 51) (pc' := 44) ok (dOf dX10_road 21 rfl) rfl (by decide) ?_ ?_
        · refine J_iload_n (pc' := 52) ok (dOf dX10_road 26 rfl) rfl rfl rfl ?_
          refine J_bipush (v := 6) (pc' := 54) ok (dOf dX10_road 27 rfl) rfl (by decide) ?_
          refine J_imul (pc' := 55) ok (dOf dX10_road 28 rfl) rfl ?_
          refine J_iload_n (pc' := 56) ok (dOf dX10_road 29 rfl) rfl rfl rfl ?_
          refine J_iadd (pc' := 57) ok (dOf dX10_road 30 rfl) rfl ?_
          refine J_istore (ls' := [some (.ref v0), some (.int v1), some (.int v2), some (.int v3), some (.ref a2), some (.int ((v1 * 6) + v2)), none]) (pc' := 59) ok (dOf dX10_road 31 rfl) rfl (Nat.le_of_ble_eq_true rfl) rfl rfl ?_
          refine J_aload (pc' := 61) ok (dOf dX10_road 32 rfl) rfl rfl ?_
          refine J_getR (ci := 6) (kf := 6) (C := RX6) (T := TX6) (N := 9) (pc' := 64) ok (dOf dX10_road 33 rfl) rfl (by decide) rfl (by decide) win_6 wfl_X10_162 (fun a11 => ?_)
          refine J_iload (pc' := 66) ok (dOf dX10_road 34 rfl) rfl rfl ?_
          refine J_iald (pc' := 67) ok (dOf dX10_road 35 rfl) rfl (fun x12 => ?_)
          refine J_istore (ls' := [some (.ref v0), some (.int v1), some (.int v2), some (.int v3), some (.ref a2), some (.int ((v1 * 6) + v2)), some (.int x12)]) (pc' := 69) ok (dOf dX10_road 36 rfl) rfl (Nat.le_of_ble_eq_true rfl) rfl rfl ?_
          refine J_iload (pc' := 71) ok (dOf dX10_road 37 rfl) rfl rfl ?_
          refine J_iload_n (pc' := 72) ok (dOf dX10_road 38 rfl) rfl rfl rfl ?_
          refine J_icmp_ne (tgt := 82) (pc' := 75) ok (dOf dX10_road 39 rfl) rfl (by decide) ?_ ?_
          · refine J_aload_n (pc' := 83) ok (dOf dX10_road 44 rfl) rfl rfl rfl ?_
            refine J_getR (ci := 10) (kf := 5) (C := RX10) (T := TX10) (N := 14) (pc' := 86) ok (dOf dX10_road 45 rfl) rfl (by decide) rfl (by decide) win_10 wfl_X10_44 (fun a13 => ?_)
            refine J_aload_n (pc' := 87) ok (dOf dX10_road 46 rfl) rfl rfl rfl ?_
            refine J_getR (ci := 10) (kf := 0) (C := RX10) (T := TX10) (N := 14) (pc' := 90) ok (dOf dX10_road 47 rfl) rfl (by decide) rfl (by decide) win_10 wfl_X10_10 (fun a14 => ?_)
            refine J_iconst (v := 3) (pc' := 91) ok (dOf dX10_road 48 rfl) rfl (by decide) ?_
            refine J_callVv (k2 := kHist_keep) (ci := 5) (T := TX5) (N := 4) (as := [.ref a14, .int 3]) (pc' := 94) ok (dOf dX10_road 49 rfl) rfl (cw_Hist_keep (by decide) (by decide)) wml_X10_109 winst_X5_keep wsel_X5_keep rfl ⟨Nat.le_refl 0, Nat.le_refl 0⟩ (Nat.le_of_ble_eq_true rfl) rfl (fun _ _ hf => t_Hist_keep hf) (fun _ h15 => ?_)
            refine J_aload (pc' := 96) ok (dOf dX10_road 50 rfl) rfl rfl ?_
            refine J_getR (ci := 6) (kf := 6) (C := RX6) (T := TX6) (N := 9) (pc' := 99) ok (dOf dX10_road 51 rfl) rfl (by decide) rfl (by decide) win_6 wfl_X10_162 (fun a16 => ?_)
            refine J_iload (pc' := 101) ok (dOf dX10_road 52 rfl) rfl rfl ?_
            refine J_iload_n (pc' := 102) ok (dOf dX10_road 53 rfl) rfl rfl rfl ?_
            refine J_iast (pc' := 103) ok (dOf dX10_road 54 rfl) rfl (fun h17 _ => ?_)
            refine J_aload_n (pc' := 104) ok (dOf dX10_road 55 rfl) rfl rfl rfl ?_
            refine J_getR (ci := 10) (kf := 2) (C := RX10) (T := TX10) (N := 14) (pc' := 107) ok (dOf dX10_road 56 rfl) rfl (by decide) rfl (by decide) win_10 wfl_X10_23 (fun a18 => ?_)
            refine J_getR (ci := 3) (kf := 0) (C := RX3) (T := TX3) (N := 12) (pc' := 110) ok (dOf dX10_road 57 rfl) rfl (by decide) rfl (by decide) win_3 wfl_X10_126 (fun a19 => ?_)
            refine J_callVv (k2 := kBook_forgetAll) (ci := 0) (T := TX0) (N := 2) (as := []) (pc' := 113) ok (dOf dX10_road 58 rfl) rfl (cw_Book_forgetAll (by decide) (by decide)) wml_X10_130 winst_X0_forgetAll wsel_X0_forgetAll rfl ⟨Nat.le_refl 0, Nat.le_refl 0⟩ (Nat.le_of_ble_eq_true rfl) rfl (fun _ _ hf => t_Book_forgetAll hf) (fun _ h20 => ?_)
            refine J_aload_n (pc' := 114) ok (dOf dX10_road 59 rfl) rfl rfl rfl ?_
            refine J_callVv (k2 := kSp_afterChange) (ci := 10) (T := TX10) (N := 14) (as := []) (pc' := 117) ok (dOf dX10_road 60 rfl) rfl (cw_Sp_afterChange (by decide) (by decide)) wml_X10_135 winst_X10_afterChange wsel_X10_afterChange rfl ⟨Nat.le_refl 0, Nat.le_refl 0⟩ (Nat.le_of_ble_eq_true rfl) rfl (fun _ _ hf => t_Sp_afterChange hf) (fun _ h21 => ?_)
            refine J_aload_n (pc' := 118) ok (dOf dX10_road 61 rfl) rfl rfl rfl ?_
            refine J_iload (pc' := 120) ok (dOf dX10_road 62 rfl) rfl rfl ?_
            refine J_iconst (v := 1) (pc' := 121) ok (dOf dX10_road 63 rfl) rfl (by decide) ?_
            refine J_iadd (pc' := 122) ok (dOf dX10_road 64 rfl) rfl ?_
            refine J_callVi (k2 := kSp_accept) (ci := 10) (T := TX10) (N := 14) (as := [.int (x12 + 1)]) (pc' := 125) ok (dOf dX10_road 65 rfl) rfl (cw_Sp_accept (by decide) (by decide)) wml_X10_91 winst_X10_accept wsel_X10_accept rfl ⟨Nat.le_refl 0, Nat.le_refl 0⟩ (Nat.le_of_ble_eq_true rfl) rfl (fun _ _ hf => t_Sp_accept hf) (fun x23 h22 => ?_)
            exact J_ireturn ok (dOf dX10_road 66 rfl) rfl (Eq.refl 0) (Nat.le_refl 0)
          · refine J_aload_n (pc' := 76) ok (dOf dX10_road 40 rfl) rfl rfl rfl ?_
            refine J_bipush (v := (-4)) (pc' := 78) ok (dOf dX10_road 41 rfl) rfl (by decide) ?_
            refine J_callVi (k2 := kSp_refuse) (ci := 10) (T := TX10) (N := 14) (as := [.int (-4)]) (pc' := 81) ok (dOf dX10_road 42 rfl) rfl (cw_Sp_refuse (by decide) (by decide)) wml_X10_81 winst_X10_refuse wsel_X10_refuse rfl ⟨Nat.le_refl 0, Nat.le_refl 0⟩ (Nat.le_of_ble_eq_true rfl) rfl (fun _ _ hf => t_Sp_refuse hf) (fun x25 h24 => ?_)
            exact J_ireturn ok (dOf dX10_road 43 rfl) rfl (Eq.refl 0) (Nat.le_refl 0)
        · exact Sp_road_j44_J ok v0 v1 v2 v3 a2 h9
    · exact Sp_road_j20_J ok v0 v1 v2 v3 a2 h
-- X10_scene
abbrev kSp_scene : Cd := (yX10_scene, cX10_scene, 3, (some .int), 4, 110)
theorem dX10_scene : dcheck cX10_scene [(0, .aload_n 0, 1), (1, .getfield 10, 3), (4, .getfield 113, 3), (7, .astore_n 2, 1), (8, .iload_n 1, 1), (9, .iconst 1, 1), (10, .if_icmp .lt 9, 3), (13, .iload_n 1, 1), (14, .bipush 9, 2), (16, .if_icmp .le 9, 3), (19, .aload_n 0, 1), (20, .iconst (-1), 1), (21, .invokevirtual 81, 3), (24, .ireturn, 1), (25, .aload_n 2, 1), (26, .getfield 165, 3), (29, .iconst 4, 1), (30, .if_icmp .lt 10, 3), (33, .aload_n 0, 1), (34, .bipush (-5), 2), (36, .invokevirtual 81, 3), (39, .ireturn, 1), (40, .aload_n 0, 1), (41, .getfield 44, 3), (44, .aload_n 0, 1), (45, .getfield 10, 3), (48, .iconst 4, 1), (49, .invokevirtual 109, 3), (52, .aload_n 2, 1), (53, .iload_n 1, 1), (54, .invokevirtual 168, 3), (57, .aload_n 0, 1), (58, .getfield 23, 3), (61, .getfield 126, 3), (64, .invokevirtual 130, 3), (67, .aload_n 0, 1), (68, .invokevirtual 135, 3), (71, .aload_n 0, 1), (72, .aload_n 2, 1), (73, .getfield 165, 3), (76, .iconst 1, 1), (77, .isub, 1), (78, .invokevirtual 91, 3), (81, .ireturn, 1)] = true := by decide +kernel
theorem cw_Sp_scene {k : Cd} (h1 : kSp_scene.2.2.2.2.1 + 1 ≤ k.2.2.2.2.1) (h2 : 8 + (kSp_scene.2.2.1 + 11) + kSp_scene.2.2.2.2.2 ≤ k.2.2.2.2.2) : Cw k kSp_scene 1 := ⟨wcode_X10_scene, wini_SplitProgram, ⟨by decide, by decide, by decide +kernel⟩, h1, h2⟩
def Sp_scene_j19 (v0 : Nat) (v1 : Int32) (v2 : Nat) (h : AHeap) : Option (Int32 × AHeap) :=
  (chk h v0 10).bind fun _ => bnd2 (Sp_refuse v0 (-1) h) fun x4 h3 => some (x4, h3)
theorem Sp_scene_j19_J {E : JE} {l : Launch} {G : GX} {v : Int32} {h' : AHeap} (ok : JOK E l G kSp_scene 0 0 (some (.int v)) h') (v0 : Nat) (v1 : Int32) (v2 : Nat) (h : AHeap) : J E kSp_scene (Sp_scene_j19 v0 v1 v2 h) (fun z => z = (v, h')) 19 [some (.ref v0), some (.int v1), some (.ref v2)] [] h 0 0 := by
  unfold Sp_scene_j19
  refine J_aload_n (pc' := 20) ok (dOf dX10_scene 10 rfl) rfl rfl rfl ?_
  refine J_iconst (v := (-1)) (pc' := 21) ok (dOf dX10_scene 11 rfl) rfl (by decide) ?_
  refine J_callVi (k2 := kSp_refuse) (ci := 10) (T := TX10) (N := 14) (as := [.int (-1)]) (pc' := 24) ok (dOf dX10_scene 12 rfl) rfl (cw_Sp_refuse (by decide) (by decide)) wml_X10_81 winst_X10_refuse wsel_X10_refuse rfl ⟨Nat.le_refl 0, Nat.le_refl 0⟩ (Nat.le_of_ble_eq_true rfl) rfl (fun _ _ hf => t_Sp_refuse hf) (fun x4 h3 => ?_)
  exact J_ireturn ok (dOf dX10_scene 13 rfl) rfl (Eq.refl 0) (Nat.le_refl 0)
def Sp_scene (v0 : Nat) (v1 : Int32) (h : AHeap) : Option (Int32 × AHeap) :=
  (gfR h v0 10 0).bind fun a1 => (gfR h a1 8 0).bind fun a2 => (if v1 < 1 then Sp_scene_j19 v0 v1 a2 h else (if v1 ≤ 9 then (gfI h a2 6 2).bind fun x5 => (if x5 < 4 then (gfR h v0 10 5).bind fun a6 => (gfR h v0 10 0).bind fun a7 => (chk h a6 5).bind fun _ => bnd2 (Hist_keep a6 a7 4 h) fun _ h8 => (chk h8 a2 6).bind fun _ => bnd2 (Prog_addCase a2 v1 h8) fun _ h9 => (gfR h9 v0 10 2).bind fun a10 => (gfR h9 a10 3 0).bind fun a11 => (chk h9 a11 0).bind fun _ => bnd2 (Book_forgetAll a11 h9) fun _ h12 => (chk h12 v0 10).bind fun _ => bnd2 (Sp_afterChange v0 h12) fun _ h13 => (gfI h13 a2 6 2).bind fun x14 => (chk h13 v0 10).bind fun _ => bnd2 (Sp_accept v0 (x14 - 1) h13) fun x16 h15 => some (x16, h15) else (chk h v0 10).bind fun _ => bnd2 (Sp_refuse v0 (-5) h) fun x18 h17 => some (x18, h17)) else Sp_scene_j19 v0 v1 a2 h))
theorem t_Sp_scene {l : Launch} {G : GX} {v0 : Nat} {v1 : Int32} {h : AHeap} {v : Int32} {h1 : AHeap} (hf : Sp_scene v0 v1 h = some (v, h1)) : CT l G kSp_scene 0 0 [.ref v0, .int v1] h (some (.int v)) h1 := by
  refine CT_of (ls := [some (.ref v0), some (.int v1), none]) (Z := fun z => z = (v, h1)) (by decide +kernel) (Nat.le_of_ble_eq_true rfl) hf rfl ⟨rfl, rfl, trivial⟩ (fun E ok => ?_)
  unfold Sp_scene
  refine J_aload_n (pc' := 1) ok (dOf dX10_scene 0 rfl) rfl rfl rfl ?_
  refine J_getR (ci := 10) (kf := 0) (C := RX10) (T := TX10) (N := 14) (pc' := 4) ok (dOf dX10_scene 1 rfl) rfl (by decide) rfl (by decide) win_10 wfl_X10_10 (fun a1 => ?_)
  refine J_getR (ci := 8) (kf := 0) (C := RX8) (T := TX8) (N := 3) (pc' := 7) ok (dOf dX10_scene 2 rfl) rfl (by decide) rfl (by decide) win_8 wfl_X10_113 (fun a2 => ?_)
  refine J_astore_n (ls' := [some (.ref v0), some (.int v1), some (.ref a2)]) (pc' := 8) ok (dOf dX10_scene 3 rfl) rfl rfl (Nat.le_of_ble_eq_true rfl) rfl rfl ?_
  refine J_iload_n (pc' := 9) ok (dOf dX10_scene 4 rfl) rfl rfl rfl ?_
  refine J_iconst (v := 1) (pc' := 10) ok (dOf dX10_scene 5 rfl) rfl (by decide) ?_
  refine J_icmp_lt (tgt := 19) (pc' := 13) ok (dOf dX10_scene 6 rfl) rfl (by decide) ?_ ?_
  · exact Sp_scene_j19_J ok v0 v1 a2 h
  · refine J_iload_n (pc' := 14) ok (dOf dX10_scene 7 rfl) rfl rfl rfl ?_
    refine J_bipush (v := 9) (pc' := 16) ok (dOf dX10_scene 8 rfl) rfl (by decide) ?_
    refine J_icmp_le (tgt := 25) (pc' := 19) ok (dOf dX10_scene 9 rfl) rfl (by decide) ?_ ?_
    · refine J_aload_n (pc' := 26) ok (dOf dX10_scene 14 rfl) rfl rfl rfl ?_
      refine J_getI (ci := 6) (kf := 2) (C := RX6) (T := TX6) (N := 9) (pc' := 29) ok (dOf dX10_scene 15 rfl) rfl (by decide) rfl (by decide) win_6 wfl_X10_165 (fun x5 => ?_)
      refine J_iconst (v := 4) (pc' := 30) ok (dOf dX10_scene 16 rfl) rfl (by decide) ?_
      refine J_icmp_lt (tgt := 40) (pc' := 33) ok (dOf dX10_scene 17 rfl) rfl (by decide) ?_ ?_
      · refine J_aload_n (pc' := 41) ok (dOf dX10_scene 22 rfl) rfl rfl rfl ?_
        refine J_getR (ci := 10) (kf := 5) (C := RX10) (T := TX10) (N := 14) (pc' := 44) ok (dOf dX10_scene 23 rfl) rfl (by decide) rfl (by decide) win_10 wfl_X10_44 (fun a6 => ?_)
        refine J_aload_n (pc' := 45) ok (dOf dX10_scene 24 rfl) rfl rfl rfl ?_
        refine J_getR (ci := 10) (kf := 0) (C := RX10) (T := TX10) (N := 14) (pc' := 48) ok (dOf dX10_scene 25 rfl) rfl (by decide) rfl (by decide) win_10 wfl_X10_10 (fun a7 => ?_)
        refine J_iconst (v := 4) (pc' := 49) ok (dOf dX10_scene 26 rfl) rfl (by decide) ?_
        refine J_callVv (k2 := kHist_keep) (ci := 5) (T := TX5) (N := 4) (as := [.ref a7, .int 4]) (pc' := 52) ok (dOf dX10_scene 27 rfl) rfl (cw_Hist_keep (by decide) (by decide)) wml_X10_109 winst_X5_keep wsel_X5_keep rfl ⟨Nat.le_refl 0, Nat.le_refl 0⟩ (Nat.le_of_ble_eq_true rfl) rfl (fun _ _ hf => t_Hist_keep hf) (fun _ h8 => ?_)
        refine J_aload_n (pc' := 53) ok (dOf dX10_scene 28 rfl) rfl rfl rfl ?_
        refine J_iload_n (pc' := 54) ok (dOf dX10_scene 29 rfl) rfl rfl rfl ?_
        refine J_callVv (k2 := kProg_addCase) (ci := 6) (T := TX6) (N := 9) (as := [.int v1]) (pc' := 57) ok (dOf dX10_scene 30 rfl) rfl (cw_Prog_addCase (by decide) (by decide)) wml_X10_168 winst_X6_addCase wsel_X6_addCase rfl ⟨Nat.le_refl 0, Nat.le_refl 0⟩ (Nat.le_of_ble_eq_true rfl) rfl (fun _ _ hf => t_Prog_addCase hf) (fun _ h9 => ?_)
        refine J_aload_n (pc' := 58) ok (dOf dX10_scene 31 rfl) rfl rfl rfl ?_
        refine J_getR (ci := 10) (kf := 2) (C := RX10) (T := TX10) (N := 14) (pc' := 61) ok (dOf dX10_scene 32 rfl) rfl (by decide) rfl (by decide) win_10 wfl_X10_23 (fun a10 => ?_)
        refine J_getR (ci := 3) (kf := 0) (C := RX3) (T := TX3) (N := 12) (pc' := 64) ok (dOf dX10_scene 33 rfl) rfl (by decide) rfl (by decide) win_3 wfl_X10_126 (fun a11 => ?_)
        refine J_callVv (k2 := kBook_forgetAll) (ci := 0) (T := TX0) (N := 2) (as := []) (pc' := 67) ok (dOf dX10_scene 34 rfl) rfl (cw_Book_forgetAll (by decide) (by decide)) wml_X10_130 winst_X0_forgetAll wsel_X0_forgetAll rfl ⟨Nat.le_refl 0, Nat.le_refl 0⟩ (Nat.le_of_ble_eq_true rfl) rfl (fun _ _ hf => t_Book_forgetAll hf) (fun _ h12 => ?_)
        refine J_aload_n (pc' := 68) ok (dOf dX10_scene 35 rfl) rfl rfl rfl ?_
        refine J_callVv (k2 := kSp_afterChange) (ci := 10) (T := TX10) (N := 14) (as := []) (pc' := 71) ok (dOf dX10_scene 36 rfl) rfl (cw_Sp_afterChange (by decide) (by decide)) wml_X10_135 winst_X10_afterChange wsel_X10_afterChange rfl ⟨Nat.le_refl 0, Nat.le_refl 0⟩ (Nat.le_of_ble_eq_true rfl) rfl (fun _ _ hf => t_Sp_afterChange hf) (fun _ h13 => ?_)
        refine J_aload_n (pc' := 72) ok (dOf dX10_scene 37 rfl) rfl rfl rfl ?_
        refine J_aload_n (pc' := 73) ok (dOf dX10_scene 38 rfl) rfl rfl rfl ?_
        refine J_getI (ci := 6) (kf := 2) (C := RX6) (T := TX6) (N := 9) (pc' := 76) ok (dOf dX10_scene 39 rfl) rfl (by decide) rfl (by decide) win_6 wfl_X10_165 (fun x14 => ?_)
        refine J_iconst (v := 1) (pc' := 77) ok (dOf dX10_scene 40 rfl) rfl (by decide) ?_
        refine J_isub (pc' := 78) ok (dOf dX10_scene 41 rfl) rfl ?_
        refine J_callVi (k2 := kSp_accept) (ci := 10) (T := TX10) (N := 14) (as := [.int (x14 - 1)]) (pc' := 81) ok (dOf dX10_scene 42 rfl) rfl (cw_Sp_accept (by decide) (by decide)) wml_X10_91 winst_X10_accept wsel_X10_accept rfl ⟨Nat.le_refl 0, Nat.le_refl 0⟩ (Nat.le_of_ble_eq_true rfl) rfl (fun _ _ hf => t_Sp_accept hf) (fun x16 h15 => ?_)
        exact J_ireturn ok (dOf dX10_scene 43 rfl) rfl (Eq.refl 0) (Nat.le_refl 0)
      · refine J_aload_n (pc' := 34) ok (dOf dX10_scene 18 rfl) rfl rfl rfl ?_
        refine J_bipush (v := (-5)) (pc' := 36) ok (dOf dX10_scene 19 rfl) rfl (by decide) ?_
        refine J_callVi (k2 := kSp_refuse) (ci := 10) (T := TX10) (N := 14) (as := [.int (-5)]) (pc' := 39) ok (dOf dX10_scene 20 rfl) rfl (cw_Sp_refuse (by decide) (by decide)) wml_X10_81 winst_X10_refuse wsel_X10_refuse rfl ⟨Nat.le_refl 0, Nat.le_refl 0⟩ (Nat.le_of_ble_eq_true rfl) rfl (fun _ _ hf => t_Sp_refuse hf) (fun x18 h17 => ?_)
        exact J_ireturn ok (dOf dX10_scene 21 rfl) rfl (Eq.refl 0) (Nat.le_refl 0)
    · exact Sp_scene_j19_J ok v0 v1 a2 h
-- X6_hasCase
abbrev kProg_hasCase : Cd := (yX6_hasCase, cX6_hasCase, 2, (some .boolean), 0, 0)
theorem dX6_hasCase : dcheck cX6_hasCase [(0, .iload_n 1, 1), (1, .ifCond .lt 15, 3), (4, .iload_n 1, 1), (5, .aload_n 0, 1), (6, .getfield 43, 3), (9, .if_icmp .ge 7, 3), (12, .iconst 1, 1), (13, .goto 4, 3), (16, .iconst 0, 1), (17, .ireturn, 1)] = true := by decide +kernel
theorem cw_Prog_hasCase {k : Cd} (h1 : kProg_hasCase.2.2.2.2.1 + 1 ≤ k.2.2.2.2.1) (h2 : 8 + (kProg_hasCase.2.2.1 + 11) + kProg_hasCase.2.2.2.2.2 ≤ k.2.2.2.2.2) : Cw k kProg_hasCase 1 := ⟨wcode_X6_hasCase, wini_SplitProgram_Program, ⟨by decide, by decide, by decide +kernel⟩, h1, h2⟩
def Prog_hasCase_j17 (v0 : Nat) (v1 : Int32) (t0 : Int32) (h : AHeap) : Option (Int32 × AHeap) :=
  (bz t0).bind fun z => some (z, h)
theorem Prog_hasCase_j17_J {E : JE} {l : Launch} {G : GX} {v : Int32} {h' : AHeap} (ok : JOK E l G kProg_hasCase 0 0 (some (.int v)) h') (v0 : Nat) (v1 : Int32) (t0 : Int32) (h : AHeap) : J E kProg_hasCase (Prog_hasCase_j17 v0 v1 t0 h) (fun z => z = (v, h')) 17 [some (.ref v0), some (.int v1)] [.int t0] h 0 0 := by
  unfold Prog_hasCase_j17
  exact J_zreturn ok (dOf dX6_hasCase 9 rfl) rfl (Eq.refl 0) (Nat.le_refl 0)
def Prog_hasCase_j16 (v0 : Nat) (v1 : Int32) (h : AHeap) : Option (Int32 × AHeap) :=
  Prog_hasCase_j17 v0 v1 0 h
theorem Prog_hasCase_j16_J {E : JE} {l : Launch} {G : GX} {v : Int32} {h' : AHeap} (ok : JOK E l G kProg_hasCase 0 0 (some (.int v)) h') (v0 : Nat) (v1 : Int32) (h : AHeap) : J E kProg_hasCase (Prog_hasCase_j16 v0 v1 h) (fun z => z = (v, h')) 16 [some (.ref v0), some (.int v1)] [] h 0 0 := by
  unfold Prog_hasCase_j16
  refine J_iconst (v := 0) (pc' := 17) ok (dOf dX6_hasCase 8 rfl) rfl (by decide) ?_
  exact Prog_hasCase_j17_J ok v0 v1 0 h
def Prog_hasCase (v0 : Nat) (v1 : Int32) (h : AHeap) : Option (Int32 × AHeap) :=
  (if v1 < 0 then Prog_hasCase_j16 v0 v1 h else (gfI h v0 6 2).bind fun x1 => (if x1 ≤ v1 then Prog_hasCase_j16 v0 v1 h else Prog_hasCase_j17 v0 v1 1 h))
theorem t_Prog_hasCase {l : Launch} {G : GX} {v0 : Nat} {v1 : Int32} {h : AHeap} {v : Int32} {h1 : AHeap} (hf : Prog_hasCase v0 v1 h = some (v, h1)) : CT l G kProg_hasCase 0 0 [.ref v0, .int v1] h (some (.int v)) h1 := by
  refine CT_of (ls := [some (.ref v0), some (.int v1)]) (Z := fun z => z = (v, h1)) (by decide +kernel) (Nat.le_of_ble_eq_true rfl) hf rfl ⟨rfl, rfl, trivial⟩ (fun E ok => ?_)
  unfold Prog_hasCase
  refine J_iload_n (pc' := 1) ok (dOf dX6_hasCase 0 rfl) rfl rfl rfl ?_
  refine J_if_lt (tgt := 16) (pc' := 4) ok (dOf dX6_hasCase 1 rfl) rfl (by decide) ?_ ?_
  · exact Prog_hasCase_j16_J ok v0 v1 h
  · refine J_iload_n (pc' := 5) ok (dOf dX6_hasCase 2 rfl) rfl rfl rfl ?_
    refine J_aload_n (pc' := 6) ok (dOf dX6_hasCase 3 rfl) rfl rfl rfl ?_
    refine J_getI (ci := 6) (kf := 2) (C := RX6) (T := TX6) (N := 9) (pc' := 9) ok (dOf dX6_hasCase 4 rfl) rfl (by decide) rfl (by decide) win_6 wfl_X6_43 (fun x1 => ?_)
    refine J_icmp_ge (tgt := 16) (pc' := 12) ok (dOf dX6_hasCase 5 rfl) rfl (by decide) ?_ ?_
    · exact Prog_hasCase_j16_J ok v0 v1 h
    · refine J_iconst (v := 1) (pc' := 13) ok (dOf dX6_hasCase 6 rfl) rfl (by decide) ?_
      refine J_goto (tgt := 17) ok (dOf dX6_hasCase 7 rfl) (by decide) ?_
      exact Prog_hasCase_j17_J ok v0 v1 1 h
-- X0_forgetCase
abbrev kBook_forgetCase : Cd := (yX0_forgetCase, cX0_forgetCase, 3, none, 0, 0)
theorem dX0_forgetCase : dcheck cX0_forgetCase [(0, .iconst 0, 1), (1, .istore_n 2, 1), (2, .iload_n 2, 1), (3, .sipush 256, 3), (6, .if_icmp .ge 23, 3), (9, .aload_n 0, 1), (10, .getfield 18, 3), (13, .iload_n 1, 1), (14, .sipush 256, 3), (17, .imul, 1), (18, .iload_n 2, 1), (19, .iadd, 1), (20, .bipush (-2), 2), (22, .iastore, 1), (23, .iinc 2 1, 3), (26, .goto (-24), 3), (29, .aload_n 0, 1), (30, .getfield 12, 3), (33, .getfield 28, 3), (36, .iload_n 1, 1), (37, .iconst 0, 1), (38, .bastore, 1), (39, .return_, 1)] = true := by decide +kernel
theorem cw_Book_forgetCase {k : Cd} (h1 : kBook_forgetCase.2.2.2.2.1 + 1 ≤ k.2.2.2.2.1) (h2 : 8 + (kBook_forgetCase.2.2.1 + 11) + kBook_forgetCase.2.2.2.2.2 ≤ k.2.2.2.2.2) : Cw k kBook_forgetCase 1 := ⟨wcode_X0_forgetCase, wini_SplitProgram_Book, ⟨by decide, by decide, by decide +kernel⟩, h1, h2⟩
def Book_forgetCase_b2 (v0 : Nat) (v1 : Int32) (s : Int32 × AHeap) : Option ((Int32 × AHeap) ⊕ ((Int32 × AHeap))) :=
  (if 256 ≤ s.1 then some (Sum.inr (s.1, s.2)) else (gfR s.2 v0 0 1).bind fun a1 => (ast 0 s.2 a1 ((v1 * 256) + s.1) (-2)).bind fun h2 => some (Sum.inl (s.1 + 1, h2)))
theorem Book_forgetCase_b2_J {E : JE} {l : Launch} {G : GX} {r : Option Value} {h' : AHeap} (ok : JOK E l G kBook_forgetCase 0 0 r h') (v0 : Nat) (v1 : Int32) {Y : (Int32 × AHeap) ⊕ ((Int32 × AHeap)) → Prop} (k1 : ∀ s' : Int32 × AHeap, Y (.inl s') → JW E kBook_forgetCase 2 [some (.ref v0), some (.int v1), some (.int s'.1)] [] s'.2 0 0) (kx29 : ∀ q : Int32 × AHeap, Y (.inr q) → JW E kBook_forgetCase 29 [some (.ref v0), some (.int v1), some (.int q.1)] [] q.2 0 0) (s : Int32 × AHeap) : J E kBook_forgetCase (Book_forgetCase_b2 v0 v1 s) Y 2 [some (.ref v0), some (.int v1), some (.int s.1)] [] s.2 0 0 := by
  unfold Book_forgetCase_b2
  refine J_iload_n (pc' := 3) ok (dOf dX0_forgetCase 2 rfl) rfl rfl rfl ?_
  refine J_sipush (v := 256) (pc' := 6) ok (dOf dX0_forgetCase 3 rfl) rfl (by decide) ?_
  refine J_icmp_ge (tgt := 29) (pc' := 9) ok (dOf dX0_forgetCase 4 rfl) rfl (by decide) ?_ ?_
  · exact J_fin (kx29 (s.1, s.2))
  · refine J_aload_n (pc' := 10) ok (dOf dX0_forgetCase 5 rfl) rfl rfl rfl ?_
    refine J_getR (ci := 0) (kf := 1) (C := RX0) (T := TX0) (N := 2) (pc' := 13) ok (dOf dX0_forgetCase 6 rfl) rfl (by decide) rfl (by decide) win_0 wfl_X0_18 (fun a1 => ?_)
    refine J_iload_n (pc' := 14) ok (dOf dX0_forgetCase 7 rfl) rfl rfl rfl ?_
    refine J_sipush (v := 256) (pc' := 17) ok (dOf dX0_forgetCase 8 rfl) rfl (by decide) ?_
    refine J_imul (pc' := 18) ok (dOf dX0_forgetCase 9 rfl) rfl ?_
    refine J_iload_n (pc' := 19) ok (dOf dX0_forgetCase 10 rfl) rfl rfl rfl ?_
    refine J_iadd (pc' := 20) ok (dOf dX0_forgetCase 11 rfl) rfl ?_
    refine J_bipush (v := (-2)) (pc' := 22) ok (dOf dX0_forgetCase 12 rfl) rfl (by decide) ?_
    refine J_iast (pc' := 23) ok (dOf dX0_forgetCase 13 rfl) rfl (fun h2 _ => ?_)
    refine J_iinc (v := s.1 + 1) (ls' := [some (.ref v0), some (.int v1), some (.int (s.1 + 1))]) (pc' := 26) ok (dOf dX0_forgetCase 14 rfl) rfl rfl (by rfl) (Nat.le_of_ble_eq_true rfl) rfl rfl ?_
    refine J_goto (tgt := 2) ok (dOf dX0_forgetCase 15 rfl) (by decide) ?_
    exact J_fin (k1 (s.1 + 1, h2))
def Book_forgetCase_j29 (v0 : Nat) (v1 : Int32) (v2 : Int32) (h : AHeap) : Option (Unit × AHeap) :=
  (gfR h v0 0 0).bind fun a3 => (gfR h a3 4 3).bind fun a4 => (ast 1 h a4 v1 0).bind fun h5 => some ((), h5)
theorem Book_forgetCase_j29_J {E : JE} {l : Launch} {G : GX} {h' : AHeap} (ok : JOK E l G kBook_forgetCase 0 0 none h') (v0 : Nat) (v1 : Int32) (v2 : Int32) (h : AHeap) : J E kBook_forgetCase (Book_forgetCase_j29 v0 v1 v2 h) (fun z => z = ((), h')) 29 [some (.ref v0), some (.int v1), some (.int v2)] [] h 0 0 := by
  unfold Book_forgetCase_j29
  refine J_aload_n (pc' := 30) ok (dOf dX0_forgetCase 16 rfl) rfl rfl rfl ?_
  refine J_getR (ci := 0) (kf := 0) (C := RX0) (T := TX0) (N := 2) (pc' := 33) ok (dOf dX0_forgetCase 17 rfl) rfl (by decide) rfl (by decide) win_0 wfl_X0_12 (fun a3 => ?_)
  refine J_getR (ci := 4) (kf := 3) (C := RX4) (T := TX4) (N := 12) (pc' := 36) ok (dOf dX0_forgetCase 18 rfl) rfl (by decide) rfl (by decide) win_4 wfl_X0_28 (fun a4 => ?_)
  refine J_iload_n (pc' := 37) ok (dOf dX0_forgetCase 19 rfl) rfl rfl rfl ?_
  refine J_iconst (v := 0) (pc' := 38) ok (dOf dX0_forgetCase 20 rfl) rfl (by decide) ?_
  refine J_zast (pc' := 39) ok (dOf dX0_forgetCase 21 rfl) rfl (fun h5 _ => ?_)
  exact J_vreturn ok (dOf dX0_forgetCase 22 rfl) rfl (Eq.refl 0) (Nat.le_refl 0)
def Book_forgetCase (v0 : Nat) (v1 : Int32) (h : AHeap) : Option (Unit × AHeap) :=
  (iter (Book_forgetCase_b2 v0 v1) Lmax (0, h)).bind (fun (q2 : Int32 × AHeap) => Book_forgetCase_j29 v0 v1 q2.1 q2.2)
theorem t_Book_forgetCase {l : Launch} {G : GX} {v0 : Nat} {v1 : Int32} {h : AHeap} {h1 : AHeap} (hf : Book_forgetCase v0 v1 h = some ((), h1)) : CT l G kBook_forgetCase 0 0 [.ref v0, .int v1] h none h1 := by
  refine CT_of (ls := [some (.ref v0), some (.int v1), none]) (Z := fun z => z = ((), h1)) (by decide +kernel) (Nat.le_of_ble_eq_true rfl) hf rfl ⟨rfl, rfl, trivial⟩ (fun E ok => ?_)
  unfold Book_forgetCase
  refine J_iconst (v := 0) (pc' := 1) ok (dOf dX0_forgetCase 0 rfl) rfl (by decide) ?_
  refine J_istore_n (ls' := [some (.ref v0), some (.int v1), some (.int 0)]) (pc' := 2) ok (dOf dX0_forgetCase 1 rfl) rfl rfl (Nat.le_of_ble_eq_true rfl) rfl rfl ?_
  refine J_iter (lf := fun z2 => [some (.ref v0), some (.int v1), some (.int z2.1)]) (sf := fun _ => []) (hf := fun z2 => z2.2) (px := (fun (q2 : Int32 × AHeap) => 29)) (lx := (fun (q2 : Int32 × AHeap) => [some (.ref v0), some (.int v1), some (.int q2.1)])) (sx := (fun (q2 : Int32 × AHeap) => [])) (hx := (fun (q2 : Int32 × AHeap) => q2.2)) (fun Y2 z2 m1 m2 => Book_forgetCase_b2_J ok v0 v1 m1 m2 z2) (fun q2 => ?_) Lmax _
  exact Book_forgetCase_j29_J ok v0 v1 q2.1 q2.2
-- X10_need
abbrev kSp_need : Cd := (yX10_need, cX10_need, 7, (some .int), 4, 110)
theorem dX10_need : dcheck cX10_need [(0, .aload_n 0, 1), (1, .getfield 10, 3), (4, .getfield 113, 3), (7, .astore 4, 2), (9, .iload_n 3, 1), (10, .ifCond .lt 9, 3), (13, .iload_n 3, 1), (14, .bipush 20, 2), (16, .if_icmp .le 9, 3), (19, .aload_n 0, 1), (20, .iconst (-1), 1), (21, .invokevirtual 81, 3), (24, .ireturn, 1), (25, .aload 4, 2), (27, .iload_n 1, 1), (28, .invokevirtual 171, 3), (31, .ifCond .eq 12, 3), (34, .aload 4, 2), (36, .iload_n 2, 1), (37, .invokevirtual 159, 3), (40, .ifCond .ne 10, 3), (43, .aload_n 0, 1), (44, .bipush (-2), 2), (46, .invokevirtual 81, 3), (49, .ireturn, 1), (50, .iload_n 1, 1), (51, .bipush 6, 2), (53, .imul, 1), (54, .iload_n 2, 1), (55, .iadd, 1), (56, .istore 5, 2), (58, .aload 4, 2), (60, .getfield 174, 3), (63, .iload 5, 2), (65, .iaload, 1), (66, .istore 6, 2), (68, .iload 6, 2), (70, .iload_n 3, 1), (71, .if_icmp .ne 10, 3), (74, .aload_n 0, 1), (75, .bipush (-4), 2), (77, .invokevirtual 81, 3), (80, .ireturn, 1), (81, .aload_n 0, 1), (82, .getfield 44, 3), (85, .aload_n 0, 1), (86, .getfield 10, 3), (89, .iconst 5, 1), (90, .invokevirtual 109, 3), (93, .aload 4, 2), (95, .getfield 174, 3), (98, .iload 5, 2), (100, .iload_n 3, 1), (101, .iastore, 1), (102, .aload_n 0, 1), (103, .getfield 23, 3), (106, .getfield 126, 3), (109, .iload_n 1, 1), (110, .invokevirtual 177, 3), (113, .aload_n 0, 1), (114, .invokevirtual 135, 3), (117, .aload_n 0, 1), (118, .iload 6, 2), (120, .invokevirtual 91, 3), (123, .ireturn, 1)] = true := by decide +kernel
theorem cw_Sp_need {k : Cd} (h1 : kSp_need.2.2.2.2.1 + 1 ≤ k.2.2.2.2.1) (h2 : 8 + (kSp_need.2.2.1 + 11) + kSp_need.2.2.2.2.2 ≤ k.2.2.2.2.2) : Cw k kSp_need 3 := ⟨wcode_X10_need, wini_SplitProgram, ⟨by decide, by decide, by decide +kernel⟩, h1, h2⟩
def Sp_need_j19 (v0 : Nat) (v1 : Int32) (v2 : Int32) (v3 : Int32) (v4 : Nat) (h : AHeap) : Option (Int32 × AHeap) :=
  (chk h v0 10).bind fun _ => bnd2 (Sp_refuse v0 (-1) h) fun x4 h3 => some (x4, h3)
theorem Sp_need_j19_J {E : JE} {l : Launch} {G : GX} {v : Int32} {h' : AHeap} (ok : JOK E l G kSp_need 0 0 (some (.int v)) h') (v0 : Nat) (v1 : Int32) (v2 : Int32) (v3 : Int32) (v4 : Nat) (h : AHeap) : J E kSp_need (Sp_need_j19 v0 v1 v2 v3 v4 h) (fun z => z = (v, h')) 19 [some (.ref v0), some (.int v1), some (.int v2), some (.int v3), some (.ref v4), none, none] [] h 0 0 := by
  unfold Sp_need_j19
  refine J_aload_n (pc' := 20) ok (dOf dX10_need 9 rfl) rfl rfl rfl ?_
  refine J_iconst (v := (-1)) (pc' := 21) ok (dOf dX10_need 10 rfl) rfl (by decide) ?_
  refine J_callVi (k2 := kSp_refuse) (ci := 10) (T := TX10) (N := 14) (as := [.int (-1)]) (pc' := 24) ok (dOf dX10_need 11 rfl) rfl (cw_Sp_refuse (by decide) (by decide)) wml_X10_81 winst_X10_refuse wsel_X10_refuse rfl ⟨Nat.le_refl 0, Nat.le_refl 0⟩ (Nat.le_of_ble_eq_true rfl) rfl (fun _ _ hf => t_Sp_refuse hf) (fun x4 h3 => ?_)
  exact J_ireturn ok (dOf dX10_need 12 rfl) rfl (Eq.refl 0) (Nat.le_refl 0)
def Sp_need_j43 (v0 : Nat) (v1 : Int32) (v2 : Int32) (v3 : Int32) (v4 : Nat) (h : AHeap) : Option (Int32 × AHeap) :=
  (chk h v0 10).bind fun _ => bnd2 (Sp_refuse v0 (-2) h) fun x8 h7 => some (x8, h7)
theorem Sp_need_j43_J {E : JE} {l : Launch} {G : GX} {v : Int32} {h' : AHeap} (ok : JOK E l G kSp_need 0 0 (some (.int v)) h') (v0 : Nat) (v1 : Int32) (v2 : Int32) (v3 : Int32) (v4 : Nat) (h : AHeap) : J E kSp_need (Sp_need_j43 v0 v1 v2 v3 v4 h) (fun z => z = (v, h')) 43 [some (.ref v0), some (.int v1), some (.int v2), some (.int v3), some (.ref v4), none, none] [] h 0 0 := by
  unfold Sp_need_j43
  refine J_aload_n (pc' := 44) ok (dOf dX10_need 21 rfl) rfl rfl rfl ?_
  refine J_bipush (v := (-2)) (pc' := 46) ok (dOf dX10_need 22 rfl) rfl (by decide) ?_
  refine J_callVi (k2 := kSp_refuse) (ci := 10) (T := TX10) (N := 14) (as := [.int (-2)]) (pc' := 49) ok (dOf dX10_need 23 rfl) rfl (cw_Sp_refuse (by decide) (by decide)) wml_X10_81 winst_X10_refuse wsel_X10_refuse rfl ⟨Nat.le_refl 0, Nat.le_refl 0⟩ (Nat.le_of_ble_eq_true rfl) rfl (fun _ _ hf => t_Sp_refuse hf) (fun x8 h7 => ?_)
  exact J_ireturn ok (dOf dX10_need 24 rfl) rfl (Eq.refl 0) (Nat.le_refl 0)
def Sp_need (v0 : Nat) (v1 : Int32) (v2 : Int32) (v3 : Int32) (h : AHeap) : Option (Int32 × AHeap) :=
  (gfR h v0 10 0).bind fun a1 => (gfR h a1 8 0).bind fun a2 => (if v3 < 0 then Sp_need_j19 v0 v1 v2 v3 a2 h else (if v3 ≤ 20 then (chk h a2 6).bind fun _ => bnd2 (Prog_hasCase a2 v1 h) fun x6 h5 => (if x6 = 0 then Sp_need_j43 v0 v1 v2 v3 a2 h5 else (chk h5 a2 6).bind fun _ => bnd2 (Prog_hasSite a2 v2 h5) fun x10 h9 => (if ¬ x10 = 0 then (gfR h9 a2 6 8).bind fun a11 => (ald 0 h9 a11 ((v1 * 6) + v2)).bind fun x12 => (if ¬ x12 = v3 then (gfR h9 v0 10 5).bind fun a13 => (gfR h9 v0 10 0).bind fun a14 => (chk h9 a13 5).bind fun _ => bnd2 (Hist_keep a13 a14 5 h9) fun _ h15 => (gfR h15 a2 6 8).bind fun a16 => (ast 0 h15 a16 ((v1 * 6) + v2) v3).bind fun h17 => (gfR h17 v0 10 2).bind fun a18 => (gfR h17 a18 3 0).bind fun a19 => (chk h17 a19 0).bind fun _ => bnd2 (Book_forgetCase a19 v1 h17) fun _ h20 => (chk h20 v0 10).bind fun _ => bnd2 (Sp_afterChange v0 h20) fun _ h21 => (chk h21 v0 10).bind fun _ => bnd2 (Sp_accept v0 x12 h21) fun x23 h22 => some (x23, h22) else (chk h9 v0 10).bind fun _ => bnd2 (Sp_refuse v0 (-4) h9) fun x25 h24 => some (x25, h24)) else Sp_need_j43 v0 v1 v2 v3 a2 h9)) else Sp_need_j19 v0 v1 v2 v3 a2 h))
theorem t_Sp_need {l : Launch} {G : GX} {v0 : Nat} {v1 : Int32} {v2 : Int32} {v3 : Int32} {h : AHeap} {v : Int32} {h1 : AHeap} (hf : Sp_need v0 v1 v2 v3 h = some (v, h1)) : CT l G kSp_need 0 0 [.ref v0, .int v1, .int v2, .int v3] h (some (.int v)) h1 := by
  refine CT_of (ls := [some (.ref v0), some (.int v1), some (.int v2), some (.int v3), none, none, none]) (Z := fun z => z = (v, h1)) (by decide +kernel) (Nat.le_of_ble_eq_true rfl) hf rfl ⟨rfl, rfl, rfl, rfl, trivial⟩ (fun E ok => ?_)
  unfold Sp_need
  refine J_aload_n (pc' := 1) ok (dOf dX10_need 0 rfl) rfl rfl rfl ?_
  refine J_getR (ci := 10) (kf := 0) (C := RX10) (T := TX10) (N := 14) (pc' := 4) ok (dOf dX10_need 1 rfl) rfl (by decide) rfl (by decide) win_10 wfl_X10_10 (fun a1 => ?_)
  refine J_getR (ci := 8) (kf := 0) (C := RX8) (T := TX8) (N := 3) (pc' := 7) ok (dOf dX10_need 2 rfl) rfl (by decide) rfl (by decide) win_8 wfl_X10_113 (fun a2 => ?_)
  refine J_astore (ls' := [some (.ref v0), some (.int v1), some (.int v2), some (.int v3), some (.ref a2), none, none]) (pc' := 9) ok (dOf dX10_need 3 rfl) rfl (Nat.le_of_ble_eq_true rfl) rfl rfl ?_
  refine J_iload_n (pc' := 10) ok (dOf dX10_need 4 rfl) rfl rfl rfl ?_
  refine J_if_lt (tgt := 19) (pc' := 13) ok (dOf dX10_need 5 rfl) rfl (by decide) ?_ ?_
  · exact Sp_need_j19_J ok v0 v1 v2 v3 a2 h
  · refine J_iload_n (pc' := 14) ok (dOf dX10_need 6 rfl) rfl rfl rfl ?_
    refine J_bipush (v := 20) (pc' := 16) ok (dOf dX10_need 7 rfl) rfl (by decide) ?_
    refine J_icmp_le (tgt := 25) (pc' := 19) ok (dOf dX10_need 8 rfl) rfl (by decide) ?_ ?_
    · refine J_aload (pc' := 27) ok (dOf dX10_need 13 rfl) rfl rfl ?_
      refine J_iload_n (pc' := 28) ok (dOf dX10_need 14 rfl) rfl rfl rfl ?_
      refine J_callVi (k2 := kProg_hasCase) (ci := 6) (T := TX6) (N := 9) (as := [.int v1]) (pc' := 31) ok (dOf dX10_need 15 rfl) rfl (cw_Prog_hasCase (by decide) (by decide)) wml_X10_171 winst_X6_hasCase wsel_X6_hasCase rfl ⟨Nat.le_refl 0, Nat.le_refl 0⟩ (Nat.le_of_ble_eq_true rfl) rfl (fun _ _ hf => t_Prog_hasCase hf) (fun x6 h5 => ?_)
      refine J_if_eq (tgt := 43) (pc' := 34) ok (dOf dX10_need 16 rfl) rfl (by decide) ?_ ?_
      · exact Sp_need_j43_J ok v0 v1 v2 v3 a2 h5
      · refine J_aload (pc' := 36) ok (dOf dX10_need 17 rfl) rfl rfl ?_
        refine J_iload_n (pc' := 37) ok (dOf dX10_need 18 rfl) rfl rfl rfl ?_
        refine J_callVi (k2 := kProg_hasSite) (ci := 6) (T := TX6) (N := 9) (as := [.int v2]) (pc' := 40) ok (dOf dX10_need 19 rfl) rfl (cw_Prog_hasSite (by decide) (by decide)) wml_X10_159 winst_X6_hasSite wsel_X6_hasSite rfl ⟨Nat.le_refl 0, Nat.le_refl 0⟩ (Nat.le_of_ble_eq_true rfl) rfl (fun _ _ hf => t_Prog_hasSite hf) (fun x10 h9 => ?_)
        refine J_if_ne (tgt := 50) (pc' := 43) ok (dOf dX10_need 20 rfl) rfl (by decide) ?_ ?_
        · refine J_iload_n (pc' := 51) ok (dOf dX10_need 25 rfl) rfl rfl rfl ?_
          refine J_bipush (v := 6) (pc' := 53) ok (dOf dX10_need 26 rfl) rfl (by decide) ?_
          refine J_imul (pc' := 54) ok (dOf dX10_need 27 rfl) rfl ?_
          refine J_iload_n (pc' := 55) ok (dOf dX10_need 28 rfl) rfl rfl rfl ?_
          refine J_iadd (pc' := 56) ok (dOf dX10_need 29 rfl) rfl ?_
          refine J_istore (ls' := [some (.ref v0), some (.int v1), some (.int v2), some (.int v3), some (.ref a2), some (.int ((v1 * 6) + v2)), none]) (pc' := 58) ok (dOf dX10_need 30 rfl) rfl (Nat.le_of_ble_eq_true rfl) rfl rfl ?_
          refine J_aload (pc' := 60) ok (dOf dX10_need 31 rfl) rfl rfl ?_
          refine J_getR (ci := 6) (kf := 8) (C := RX6) (T := TX6) (N := 9) (pc' := 63) ok (dOf dX10_need 32 rfl) rfl (by decide) rfl (by decide) win_6 wfl_X10_174 (fun a11 => ?_)
          refine J_iload (pc' := 65) ok (dOf dX10_need 33 rfl) rfl rfl ?_
          refine J_iald (pc' := 66) ok (dOf dX10_need 34 rfl) rfl (fun x12 => ?_)
          refine J_istore (ls' := [some (.ref v0), some (.int v1), some (.int v2), some (.int v3), some (.ref a2), some (.int ((v1 * 6) + v2)), some (.int x12)]) (pc' := 68) ok (dOf dX10_need 35 rfl) rfl (Nat.le_of_ble_eq_true rfl) rfl rfl ?_
          refine J_iload (pc' := 70) ok (dOf dX10_need 36 rfl) rfl rfl ?_
          refine J_iload_n (pc' := 71) ok (dOf dX10_need 37 rfl) rfl rfl rfl ?_
          refine J_icmp_ne (tgt := 81) (pc' := 74) ok (dOf dX10_need 38 rfl) rfl (by decide) ?_ ?_
          · refine J_aload_n (pc' := 82) ok (dOf dX10_need 43 rfl) rfl rfl rfl ?_
            refine J_getR (ci := 10) (kf := 5) (C := RX10) (T := TX10) (N := 14) (pc' := 85) ok (dOf dX10_need 44 rfl) rfl (by decide) rfl (by decide) win_10 wfl_X10_44 (fun a13 => ?_)
            refine J_aload_n (pc' := 86) ok (dOf dX10_need 45 rfl) rfl rfl rfl ?_
            refine J_getR (ci := 10) (kf := 0) (C := RX10) (T := TX10) (N := 14) (pc' := 89) ok (dOf dX10_need 46 rfl) rfl (by decide) rfl (by decide) win_10 wfl_X10_10 (fun a14 => ?_)
            refine J_iconst (v := 5) (pc' := 90) ok (dOf dX10_need 47 rfl) rfl (by decide) ?_
            refine J_callVv (k2 := kHist_keep) (ci := 5) (T := TX5) (N := 4) (as := [.ref a14, .int 5]) (pc' := 93) ok (dOf dX10_need 48 rfl) rfl (cw_Hist_keep (by decide) (by decide)) wml_X10_109 winst_X5_keep wsel_X5_keep rfl ⟨Nat.le_refl 0, Nat.le_refl 0⟩ (Nat.le_of_ble_eq_true rfl) rfl (fun _ _ hf => t_Hist_keep hf) (fun _ h15 => ?_)
            refine J_aload (pc' := 95) ok (dOf dX10_need 49 rfl) rfl rfl ?_
            refine J_getR (ci := 6) (kf := 8) (C := RX6) (T := TX6) (N := 9) (pc' := 98) ok (dOf dX10_need 50 rfl) rfl (by decide) rfl (by decide) win_6 wfl_X10_174 (fun a16 => ?_)
            refine J_iload (pc' := 100) ok (dOf dX10_need 51 rfl) rfl rfl ?_
            refine J_iload_n (pc' := 101) ok (dOf dX10_need 52 rfl) rfl rfl rfl ?_
            refine J_iast (pc' := 102) ok (dOf dX10_need 53 rfl) rfl (fun h17 _ => ?_)
            refine J_aload_n (pc' := 103) ok (dOf dX10_need 54 rfl) rfl rfl rfl ?_
            refine J_getR (ci := 10) (kf := 2) (C := RX10) (T := TX10) (N := 14) (pc' := 106) ok (dOf dX10_need 55 rfl) rfl (by decide) rfl (by decide) win_10 wfl_X10_23 (fun a18 => ?_)
            refine J_getR (ci := 3) (kf := 0) (C := RX3) (T := TX3) (N := 12) (pc' := 109) ok (dOf dX10_need 56 rfl) rfl (by decide) rfl (by decide) win_3 wfl_X10_126 (fun a19 => ?_)
            refine J_iload_n (pc' := 110) ok (dOf dX10_need 57 rfl) rfl rfl rfl ?_
            refine J_callVv (k2 := kBook_forgetCase) (ci := 0) (T := TX0) (N := 2) (as := [.int v1]) (pc' := 113) ok (dOf dX10_need 58 rfl) rfl (cw_Book_forgetCase (by decide) (by decide)) wml_X10_177 winst_X0_forgetCase wsel_X0_forgetCase rfl ⟨Nat.le_refl 0, Nat.le_refl 0⟩ (Nat.le_of_ble_eq_true rfl) rfl (fun _ _ hf => t_Book_forgetCase hf) (fun _ h20 => ?_)
            refine J_aload_n (pc' := 114) ok (dOf dX10_need 59 rfl) rfl rfl rfl ?_
            refine J_callVv (k2 := kSp_afterChange) (ci := 10) (T := TX10) (N := 14) (as := []) (pc' := 117) ok (dOf dX10_need 60 rfl) rfl (cw_Sp_afterChange (by decide) (by decide)) wml_X10_135 winst_X10_afterChange wsel_X10_afterChange rfl ⟨Nat.le_refl 0, Nat.le_refl 0⟩ (Nat.le_of_ble_eq_true rfl) rfl (fun _ _ hf => t_Sp_afterChange hf) (fun _ h21 => ?_)
            refine J_aload_n (pc' := 118) ok (dOf dX10_need 61 rfl) rfl rfl rfl ?_
            refine J_iload (pc' := 120) ok (dOf dX10_need 62 rfl) rfl rfl ?_
            refine J_callVi (k2 := kSp_accept) (ci := 10) (T := TX10) (N := 14) (as := [.int x12]) (pc' := 123) ok (dOf dX10_need 63 rfl) rfl (cw_Sp_accept (by decide) (by decide)) wml_X10_91 winst_X10_accept wsel_X10_accept rfl ⟨Nat.le_refl 0, Nat.le_refl 0⟩ (Nat.le_of_ble_eq_true rfl) rfl (fun _ _ hf => t_Sp_accept hf) (fun x23 h22 => ?_)
            exact J_ireturn ok (dOf dX10_need 64 rfl) rfl (Eq.refl 0) (Nat.le_refl 0)
          · refine J_aload_n (pc' := 75) ok (dOf dX10_need 39 rfl) rfl rfl rfl ?_
            refine J_bipush (v := (-4)) (pc' := 77) ok (dOf dX10_need 40 rfl) rfl (by decide) ?_
            refine J_callVi (k2 := kSp_refuse) (ci := 10) (T := TX10) (N := 14) (as := [.int (-4)]) (pc' := 80) ok (dOf dX10_need 41 rfl) rfl (cw_Sp_refuse (by decide) (by decide)) wml_X10_81 winst_X10_refuse wsel_X10_refuse rfl ⟨Nat.le_refl 0, Nat.le_refl 0⟩ (Nat.le_of_ble_eq_true rfl) rfl (fun _ _ hf => t_Sp_refuse hf) (fun x25 h24 => ?_)
            exact J_ireturn ok (dOf dX10_need 42 rfl) rfl (Eq.refl 0) (Nat.le_refl 0)
        · exact Sp_need_j43_J ok v0 v1 v2 v3 a2 h9
    · exact Sp_need_j19_J ok v0 v1 v2 v3 a2 h
-- X6_plantValue
abbrev kProg_plantValue : Cd := (yX6_plantValue, cX6_plantValue, 3, (some .int), 0, 0)
theorem dX6_plantValue : dcheck cX6_plantValue [(0, .iload_n 2, 1), (1, .ifCond .ne 12, 3), (4, .aload_n 0, 1), (5, .getfield 9, 3), (8, .iload_n 1, 1), (9, .iaload, 1), (10, .goto 23, 3), (13, .iload_n 2, 1), (14, .iconst 1, 1), (15, .if_icmp .ne 12, 3), (18, .aload_n 0, 1), (19, .getfield 15, 3), (22, .iload_n 1, 1), (23, .iaload, 1), (24, .goto 9, 3), (27, .aload_n 0, 1), (28, .getfield 18, 3), (31, .iload_n 1, 1), (32, .iaload, 1), (33, .ireturn, 1)] = true := by decide +kernel
theorem cw_Prog_plantValue {k : Cd} (h1 : kProg_plantValue.2.2.2.2.1 + 1 ≤ k.2.2.2.2.1) (h2 : 8 + (kProg_plantValue.2.2.1 + 11) + kProg_plantValue.2.2.2.2.2 ≤ k.2.2.2.2.2) : Cw k kProg_plantValue 2 := ⟨wcode_X6_plantValue, wini_SplitProgram_Program, ⟨by decide, by decide, by decide +kernel⟩, h1, h2⟩
def Prog_plantValue_j33 (v0 : Nat) (v1 : Int32) (v2 : Int32) (t0 : Int32) (h : AHeap) : Option (Int32 × AHeap) :=
  some (t0, h)
theorem Prog_plantValue_j33_J {E : JE} {l : Launch} {G : GX} {v : Int32} {h' : AHeap} (ok : JOK E l G kProg_plantValue 0 0 (some (.int v)) h') (v0 : Nat) (v1 : Int32) (v2 : Int32) (t0 : Int32) (h : AHeap) : J E kProg_plantValue (Prog_plantValue_j33 v0 v1 v2 t0 h) (fun z => z = (v, h')) 33 [some (.ref v0), some (.int v1), some (.int v2)] [.int t0] h 0 0 := by
  unfold Prog_plantValue_j33
  exact J_ireturn ok (dOf dX6_plantValue 19 rfl) rfl (Eq.refl 0) (Nat.le_refl 0)
def Prog_plantValue (v0 : Nat) (v1 : Int32) (v2 : Int32) (h : AHeap) : Option (Int32 × AHeap) :=
  (if ¬ v2 = 0 then (if ¬ v2 = 1 then (gfR h v0 6 5).bind fun a1 => (ald 0 h a1 v1).bind fun x2 => Prog_plantValue_j33 v0 v1 v2 x2 h else (gfR h v0 6 4).bind fun a3 => (ald 0 h a3 v1).bind fun x4 => Prog_plantValue_j33 v0 v1 v2 x4 h) else (gfR h v0 6 3).bind fun a5 => (ald 0 h a5 v1).bind fun x6 => Prog_plantValue_j33 v0 v1 v2 x6 h)
theorem t_Prog_plantValue {l : Launch} {G : GX} {v0 : Nat} {v1 : Int32} {v2 : Int32} {h : AHeap} {v : Int32} {h1 : AHeap} (hf : Prog_plantValue v0 v1 v2 h = some (v, h1)) : CT l G kProg_plantValue 0 0 [.ref v0, .int v1, .int v2] h (some (.int v)) h1 := by
  refine CT_of (ls := [some (.ref v0), some (.int v1), some (.int v2)]) (Z := fun z => z = (v, h1)) (by decide +kernel) (Nat.le_of_ble_eq_true rfl) hf rfl ⟨rfl, rfl, rfl, trivial⟩ (fun E ok => ?_)
  unfold Prog_plantValue
  refine J_iload_n (pc' := 1) ok (dOf dX6_plantValue 0 rfl) rfl rfl rfl ?_
  refine J_if_ne (tgt := 13) (pc' := 4) ok (dOf dX6_plantValue 1 rfl) rfl (by decide) ?_ ?_
  · refine J_iload_n (pc' := 14) ok (dOf dX6_plantValue 7 rfl) rfl rfl rfl ?_
    refine J_iconst (v := 1) (pc' := 15) ok (dOf dX6_plantValue 8 rfl) rfl (by decide) ?_
    refine J_icmp_ne (tgt := 27) (pc' := 18) ok (dOf dX6_plantValue 9 rfl) rfl (by decide) ?_ ?_
    · refine J_aload_n (pc' := 28) ok (dOf dX6_plantValue 15 rfl) rfl rfl rfl ?_
      refine J_getR (ci := 6) (kf := 5) (C := RX6) (T := TX6) (N := 9) (pc' := 31) ok (dOf dX6_plantValue 16 rfl) rfl (by decide) rfl (by decide) win_6 wfl_X6_18 (fun a1 => ?_)
      refine J_iload_n (pc' := 32) ok (dOf dX6_plantValue 17 rfl) rfl rfl rfl ?_
      refine J_iald (pc' := 33) ok (dOf dX6_plantValue 18 rfl) rfl (fun x2 => ?_)
      exact Prog_plantValue_j33_J ok v0 v1 v2 x2 h
    · refine J_aload_n (pc' := 19) ok (dOf dX6_plantValue 10 rfl) rfl rfl rfl ?_
      refine J_getR (ci := 6) (kf := 4) (C := RX6) (T := TX6) (N := 9) (pc' := 22) ok (dOf dX6_plantValue 11 rfl) rfl (by decide) rfl (by decide) win_6 wfl_X6_15 (fun a3 => ?_)
      refine J_iload_n (pc' := 23) ok (dOf dX6_plantValue 12 rfl) rfl rfl rfl ?_
      refine J_iald (pc' := 24) ok (dOf dX6_plantValue 13 rfl) rfl (fun x4 => ?_)
      refine J_goto (tgt := 33) ok (dOf dX6_plantValue 14 rfl) (by decide) ?_
      exact Prog_plantValue_j33_J ok v0 v1 v2 x4 h
  · refine J_aload_n (pc' := 5) ok (dOf dX6_plantValue 2 rfl) rfl rfl rfl ?_
    refine J_getR (ci := 6) (kf := 3) (C := RX6) (T := TX6) (N := 9) (pc' := 8) ok (dOf dX6_plantValue 3 rfl) rfl (by decide) rfl (by decide) win_6 wfl_X6_9 (fun a5 => ?_)
    refine J_iload_n (pc' := 9) ok (dOf dX6_plantValue 4 rfl) rfl rfl rfl ?_
    refine J_iald (pc' := 10) ok (dOf dX6_plantValue 5 rfl) rfl (fun x6 => ?_)
    refine J_goto (tgt := 33) ok (dOf dX6_plantValue 6 rfl) (by decide) ?_
    exact Prog_plantValue_j33_J ok v0 v1 v2 x6 h
-- X6_setPlantValue
abbrev kProg_setPlantValue : Cd := (yX6_setPlantValue, cX6_setPlantValue, 4, none, 0, 0)
theorem dX6_setPlantValue : dcheck cX6_setPlantValue [(0, .iload_n 2, 1), (1, .ifCond .ne 13, 3), (4, .aload_n 0, 1), (5, .getfield 9, 3), (8, .iload_n 1, 1), (9, .iload_n 3, 1), (10, .iastore, 1), (11, .goto 25, 3), (14, .iload_n 2, 1), (15, .iconst 1, 1), (16, .if_icmp .ne 13, 3), (19, .aload_n 0, 1), (20, .getfield 15, 3), (23, .iload_n 1, 1), (24, .iload_n 3, 1), (25, .iastore, 1), (26, .goto 10, 3), (29, .aload_n 0, 1), (30, .getfield 18, 3), (33, .iload_n 1, 1), (34, .iload_n 3, 1), (35, .iastore, 1), (36, .return_, 1)] = true := by decide +kernel
theorem cw_Prog_setPlantValue {k : Cd} (h1 : kProg_setPlantValue.2.2.2.2.1 + 1 ≤ k.2.2.2.2.1) (h2 : 8 + (kProg_setPlantValue.2.2.1 + 11) + kProg_setPlantValue.2.2.2.2.2 ≤ k.2.2.2.2.2) : Cw k kProg_setPlantValue 3 := ⟨wcode_X6_setPlantValue, wini_SplitProgram_Program, ⟨by decide, by decide, by decide +kernel⟩, h1, h2⟩
def Prog_setPlantValue_j36 (v0 : Nat) (v1 : Int32) (v2 : Int32) (v3 : Int32) (h : AHeap) : Option (Unit × AHeap) :=
  some ((), h)
theorem Prog_setPlantValue_j36_J {E : JE} {l : Launch} {G : GX} {h' : AHeap} (ok : JOK E l G kProg_setPlantValue 0 0 none h') (v0 : Nat) (v1 : Int32) (v2 : Int32) (v3 : Int32) (h : AHeap) : J E kProg_setPlantValue (Prog_setPlantValue_j36 v0 v1 v2 v3 h) (fun z => z = ((), h')) 36 [some (.ref v0), some (.int v1), some (.int v2), some (.int v3)] [] h 0 0 := by
  unfold Prog_setPlantValue_j36
  exact J_vreturn ok (dOf dX6_setPlantValue 22 rfl) rfl (Eq.refl 0) (Nat.le_refl 0)
def Prog_setPlantValue (v0 : Nat) (v1 : Int32) (v2 : Int32) (v3 : Int32) (h : AHeap) : Option (Unit × AHeap) :=
  (if ¬ v2 = 0 then (if ¬ v2 = 1 then (gfR h v0 6 5).bind fun a1 => (ast 0 h a1 v1 v3).bind fun h2 => Prog_setPlantValue_j36 v0 v1 v2 v3 h2 else (gfR h v0 6 4).bind fun a3 => (ast 0 h a3 v1 v3).bind fun h4 => Prog_setPlantValue_j36 v0 v1 v2 v3 h4) else (gfR h v0 6 3).bind fun a5 => (ast 0 h a5 v1 v3).bind fun h6 => Prog_setPlantValue_j36 v0 v1 v2 v3 h6)
theorem t_Prog_setPlantValue {l : Launch} {G : GX} {v0 : Nat} {v1 : Int32} {v2 : Int32} {v3 : Int32} {h : AHeap} {h1 : AHeap} (hf : Prog_setPlantValue v0 v1 v2 v3 h = some ((), h1)) : CT l G kProg_setPlantValue 0 0 [.ref v0, .int v1, .int v2, .int v3] h none h1 := by
  refine CT_of (ls := [some (.ref v0), some (.int v1), some (.int v2), some (.int v3)]) (Z := fun z => z = ((), h1)) (by decide +kernel) (Nat.le_of_ble_eq_true rfl) hf rfl ⟨rfl, rfl, rfl, rfl, trivial⟩ (fun E ok => ?_)
  unfold Prog_setPlantValue
  refine J_iload_n (pc' := 1) ok (dOf dX6_setPlantValue 0 rfl) rfl rfl rfl ?_
  refine J_if_ne (tgt := 14) (pc' := 4) ok (dOf dX6_setPlantValue 1 rfl) rfl (by decide) ?_ ?_
  · refine J_iload_n (pc' := 15) ok (dOf dX6_setPlantValue 8 rfl) rfl rfl rfl ?_
    refine J_iconst (v := 1) (pc' := 16) ok (dOf dX6_setPlantValue 9 rfl) rfl (by decide) ?_
    refine J_icmp_ne (tgt := 29) (pc' := 19) ok (dOf dX6_setPlantValue 10 rfl) rfl (by decide) ?_ ?_
    · refine J_aload_n (pc' := 30) ok (dOf dX6_setPlantValue 17 rfl) rfl rfl rfl ?_
      refine J_getR (ci := 6) (kf := 5) (C := RX6) (T := TX6) (N := 9) (pc' := 33) ok (dOf dX6_setPlantValue 18 rfl) rfl (by decide) rfl (by decide) win_6 wfl_X6_18 (fun a1 => ?_)
      refine J_iload_n (pc' := 34) ok (dOf dX6_setPlantValue 19 rfl) rfl rfl rfl ?_
      refine J_iload_n (pc' := 35) ok (dOf dX6_setPlantValue 20 rfl) rfl rfl rfl ?_
      refine J_iast (pc' := 36) ok (dOf dX6_setPlantValue 21 rfl) rfl (fun h2 _ => ?_)
      exact Prog_setPlantValue_j36_J ok v0 v1 v2 v3 h2
    · refine J_aload_n (pc' := 20) ok (dOf dX6_setPlantValue 11 rfl) rfl rfl rfl ?_
      refine J_getR (ci := 6) (kf := 4) (C := RX6) (T := TX6) (N := 9) (pc' := 23) ok (dOf dX6_setPlantValue 12 rfl) rfl (by decide) rfl (by decide) win_6 wfl_X6_15 (fun a3 => ?_)
      refine J_iload_n (pc' := 24) ok (dOf dX6_setPlantValue 13 rfl) rfl rfl rfl ?_
      refine J_iload_n (pc' := 25) ok (dOf dX6_setPlantValue 14 rfl) rfl rfl rfl ?_
      refine J_iast (pc' := 26) ok (dOf dX6_setPlantValue 15 rfl) rfl (fun h4 _ => ?_)
      refine J_goto (tgt := 36) ok (dOf dX6_setPlantValue 16 rfl) (by decide) ?_
      exact Prog_setPlantValue_j36_J ok v0 v1 v2 v3 h4
  · refine J_aload_n (pc' := 5) ok (dOf dX6_setPlantValue 2 rfl) rfl rfl rfl ?_
    refine J_getR (ci := 6) (kf := 3) (C := RX6) (T := TX6) (N := 9) (pc' := 8) ok (dOf dX6_setPlantValue 3 rfl) rfl (by decide) rfl (by decide) win_6 wfl_X6_9 (fun a5 => ?_)
    refine J_iload_n (pc' := 9) ok (dOf dX6_setPlantValue 4 rfl) rfl rfl rfl ?_
    refine J_iload_n (pc' := 10) ok (dOf dX6_setPlantValue 5 rfl) rfl rfl rfl ?_
    refine J_iast (pc' := 11) ok (dOf dX6_setPlantValue 6 rfl) rfl (fun h6 _ => ?_)
    refine J_goto (tgt := 36) ok (dOf dX6_setPlantValue 7 rfl) (by decide) ?_
    exact Prog_setPlantValue_j36_J ok v0 v1 v2 v3 h6
-- X10_change
abbrev kSp_change : Cd := (yX10_change, cX10_change, 6, (some .int), 4, 110)
theorem dX10_change : dcheck cX10_change [(0, .aload_n 0, 1), (1, .getfield 10, 3), (4, .getfield 113, 3), (7, .astore 4, 2), (9, .iload_n 2, 1), (10, .iload_n 3, 1), (11, .invokestatic 141, 3), (14, .ifCond .ne 9, 3), (17, .aload_n 0, 1), (18, .iconst (-1), 1), (19, .invokevirtual 81, 3), (22, .ireturn, 1), (23, .aload 4, 2), (25, .iload_n 1, 1), (26, .invokevirtual 155, 3), (29, .ifCond .ne 10, 3), (32, .aload_n 0, 1), (33, .bipush (-2), 2), (35, .invokevirtual 81, 3), (38, .ireturn, 1), (39, .aload 4, 2), (41, .iload_n 1, 1), (42, .iload_n 2, 1), (43, .invokevirtual 180, 3), (46, .istore 5, 2), (48, .iload 5, 2), (50, .iload_n 3, 1), (51, .if_icmp .ne 10, 3), (54, .aload_n 0, 1), (55, .bipush (-4), 2), (57, .invokevirtual 81, 3), (60, .ireturn, 1), (61, .aload_n 0, 1), (62, .getfield 44, 3), (65, .aload_n 0, 1), (66, .getfield 10, 3), (69, .bipush 6, 2), (71, .invokevirtual 109, 3), (74, .aload 4, 2), (76, .iload_n 1, 1), (77, .iload_n 2, 1), (78, .iload_n 3, 1), (79, .invokevirtual 184, 3), (82, .aload_n 0, 1), (83, .getfield 23, 3), (86, .getfield 126, 3), (89, .invokevirtual 130, 3), (92, .aload_n 0, 1), (93, .invokevirtual 135, 3), (96, .aload_n 0, 1), (97, .iload 5, 2), (99, .invokevirtual 91, 3), (102, .ireturn, 1)] = true := by decide +kernel
theorem cw_Sp_change {k : Cd} (h1 : kSp_change.2.2.2.2.1 + 1 ≤ k.2.2.2.2.1) (h2 : 8 + (kSp_change.2.2.1 + 11) + kSp_change.2.2.2.2.2 ≤ k.2.2.2.2.2) : Cw k kSp_change 3 := ⟨wcode_X10_change, wini_SplitProgram, ⟨by decide, by decide, by decide +kernel⟩, h1, h2⟩
def Sp_change (v0 : Nat) (v1 : Int32) (v2 : Int32) (v3 : Int32) (h : AHeap) : Option (Int32 × AHeap) :=
  (gfR h v0 10 0).bind fun a1 => (gfR h a1 8 0).bind fun a2 => bnd2 (Sp_canBe v2 v3 h) fun x4 h3 => (if ¬ x4 = 0 then (chk h3 a2 6).bind fun _ => bnd2 (Prog_hasPlant a2 v1 h3) fun x6 h5 => (if ¬ x6 = 0 then (chk h5 a2 6).bind fun _ => bnd2 (Prog_plantValue a2 v1 v2 h5) fun x8 h7 => (if ¬ x8 = v3 then (gfR h7 v0 10 5).bind fun a9 => (gfR h7 v0 10 0).bind fun a10 => (chk h7 a9 5).bind fun _ => bnd2 (Hist_keep a9 a10 6 h7) fun _ h11 => (chk h11 a2 6).bind fun _ => bnd2 (Prog_setPlantValue a2 v1 v2 v3 h11) fun _ h12 => (gfR h12 v0 10 2).bind fun a13 => (gfR h12 a13 3 0).bind fun a14 => (chk h12 a14 0).bind fun _ => bnd2 (Book_forgetAll a14 h12) fun _ h15 => (chk h15 v0 10).bind fun _ => bnd2 (Sp_afterChange v0 h15) fun _ h16 => (chk h16 v0 10).bind fun _ => bnd2 (Sp_accept v0 x8 h16) fun x18 h17 => some (x18, h17) else (chk h7 v0 10).bind fun _ => bnd2 (Sp_refuse v0 (-4) h7) fun x20 h19 => some (x20, h19)) else (chk h5 v0 10).bind fun _ => bnd2 (Sp_refuse v0 (-2) h5) fun x22 h21 => some (x22, h21)) else (chk h3 v0 10).bind fun _ => bnd2 (Sp_refuse v0 (-1) h3) fun x24 h23 => some (x24, h23))
theorem t_Sp_change {l : Launch} {G : GX} {v0 : Nat} {v1 : Int32} {v2 : Int32} {v3 : Int32} {h : AHeap} {v : Int32} {h1 : AHeap} (hf : Sp_change v0 v1 v2 v3 h = some (v, h1)) : CT l G kSp_change 0 0 [.ref v0, .int v1, .int v2, .int v3] h (some (.int v)) h1 := by
  refine CT_of (ls := [some (.ref v0), some (.int v1), some (.int v2), some (.int v3), none, none]) (Z := fun z => z = (v, h1)) (by decide +kernel) (Nat.le_of_ble_eq_true rfl) hf rfl ⟨rfl, rfl, rfl, rfl, trivial⟩ (fun E ok => ?_)
  unfold Sp_change
  refine J_aload_n (pc' := 1) ok (dOf dX10_change 0 rfl) rfl rfl rfl ?_
  refine J_getR (ci := 10) (kf := 0) (C := RX10) (T := TX10) (N := 14) (pc' := 4) ok (dOf dX10_change 1 rfl) rfl (by decide) rfl (by decide) win_10 wfl_X10_10 (fun a1 => ?_)
  refine J_getR (ci := 8) (kf := 0) (C := RX8) (T := TX8) (N := 3) (pc' := 7) ok (dOf dX10_change 2 rfl) rfl (by decide) rfl (by decide) win_8 wfl_X10_113 (fun a2 => ?_)
  refine J_astore (ls' := [some (.ref v0), some (.int v1), some (.int v2), some (.int v3), some (.ref a2), none]) (pc' := 9) ok (dOf dX10_change 3 rfl) rfl (Nat.le_of_ble_eq_true rfl) rfl rfl ?_
  refine J_iload_n (pc' := 10) ok (dOf dX10_change 4 rfl) rfl rfl rfl ?_
  refine J_iload_n (pc' := 11) ok (dOf dX10_change 5 rfl) rfl rfl rfl ?_
  refine J_callSi (k2 := kSp_canBe) (as := [.int v2, .int v3]) (pc' := 14) ok (dOf dX10_change 6 rfl) rfl (cw_Sp_canBe (by decide) (by decide)) wml_X10_141 wstat_X10_canBe ⟨Nat.le_refl 0, Nat.le_refl 0⟩ (Nat.le_of_ble_eq_true rfl) rfl (fun _ _ hf => t_Sp_canBe hf) (fun x4 h3 => ?_)
  refine J_if_ne (tgt := 23) (pc' := 17) ok (dOf dX10_change 7 rfl) rfl (by decide) ?_ ?_
  · refine J_aload (pc' := 25) ok (dOf dX10_change 12 rfl) rfl rfl ?_
    refine J_iload_n (pc' := 26) ok (dOf dX10_change 13 rfl) rfl rfl rfl ?_
    refine J_callVi (k2 := kProg_hasPlant) (ci := 6) (T := TX6) (N := 9) (as := [.int v1]) (pc' := 29) ok (dOf dX10_change 14 rfl) rfl (cw_Prog_hasPlant (by decide) (by decide)) wml_X10_155 winst_X6_hasPlant wsel_X6_hasPlant rfl ⟨Nat.le_refl 0, Nat.le_refl 0⟩ (Nat.le_of_ble_eq_true rfl) rfl (fun _ _ hf => t_Prog_hasPlant hf) (fun x6 h5 => ?_)
    refine J_if_ne (tgt := 39) (pc' := 32) ok (dOf dX10_change 15 rfl) rfl (by decide) ?_ ?_
    · refine J_aload (pc' := 41) ok (dOf dX10_change 20 rfl) rfl rfl ?_
      refine J_iload_n (pc' := 42) ok (dOf dX10_change 21 rfl) rfl rfl rfl ?_
      refine J_iload_n (pc' := 43) ok (dOf dX10_change 22 rfl) rfl rfl rfl ?_
      refine J_callVi (k2 := kProg_plantValue) (ci := 6) (T := TX6) (N := 9) (as := [.int v1, .int v2]) (pc' := 46) ok (dOf dX10_change 23 rfl) rfl (cw_Prog_plantValue (by decide) (by decide)) wml_X10_180 winst_X6_plantValue wsel_X6_plantValue rfl ⟨Nat.le_refl 0, Nat.le_refl 0⟩ (Nat.le_of_ble_eq_true rfl) rfl (fun _ _ hf => t_Prog_plantValue hf) (fun x8 h7 => ?_)
      refine J_istore (ls' := [some (.ref v0), some (.int v1), some (.int v2), some (.int v3), some (.ref a2), some (.int x8)]) (pc' := 48) ok (dOf dX10_change 24 rfl) rfl (Nat.le_of_ble_eq_true rfl) rfl rfl ?_
      refine J_iload (pc' := 50) ok (dOf dX10_change 25 rfl) rfl rfl ?_
      refine J_iload_n (pc' := 51) ok (dOf dX10_change 26 rfl) rfl rfl rfl ?_
      refine J_icmp_ne (tgt := 61) (pc' := 54) ok (dOf dX10_change 27 rfl) rfl (by decide) ?_ ?_
      · refine J_aload_n (pc' := 62) ok (dOf dX10_change 32 rfl) rfl rfl rfl ?_
        refine J_getR (ci := 10) (kf := 5) (C := RX10) (T := TX10) (N := 14) (pc' := 65) ok (dOf dX10_change 33 rfl) rfl (by decide) rfl (by decide) win_10 wfl_X10_44 (fun a9 => ?_)
        refine J_aload_n (pc' := 66) ok (dOf dX10_change 34 rfl) rfl rfl rfl ?_
        refine J_getR (ci := 10) (kf := 0) (C := RX10) (T := TX10) (N := 14) (pc' := 69) ok (dOf dX10_change 35 rfl) rfl (by decide) rfl (by decide) win_10 wfl_X10_10 (fun a10 => ?_)
        refine J_bipush (v := 6) (pc' := 71) ok (dOf dX10_change 36 rfl) rfl (by decide) ?_
        refine J_callVv (k2 := kHist_keep) (ci := 5) (T := TX5) (N := 4) (as := [.ref a10, .int 6]) (pc' := 74) ok (dOf dX10_change 37 rfl) rfl (cw_Hist_keep (by decide) (by decide)) wml_X10_109 winst_X5_keep wsel_X5_keep rfl ⟨Nat.le_refl 0, Nat.le_refl 0⟩ (Nat.le_of_ble_eq_true rfl) rfl (fun _ _ hf => t_Hist_keep hf) (fun _ h11 => ?_)
        refine J_aload (pc' := 76) ok (dOf dX10_change 38 rfl) rfl rfl ?_
        refine J_iload_n (pc' := 77) ok (dOf dX10_change 39 rfl) rfl rfl rfl ?_
        refine J_iload_n (pc' := 78) ok (dOf dX10_change 40 rfl) rfl rfl rfl ?_
        refine J_iload_n (pc' := 79) ok (dOf dX10_change 41 rfl) rfl rfl rfl ?_
        refine J_callVv (k2 := kProg_setPlantValue) (ci := 6) (T := TX6) (N := 9) (as := [.int v1, .int v2, .int v3]) (pc' := 82) ok (dOf dX10_change 42 rfl) rfl (cw_Prog_setPlantValue (by decide) (by decide)) wml_X10_184 winst_X6_setPlantValue wsel_X6_setPlantValue rfl ⟨Nat.le_refl 0, Nat.le_refl 0⟩ (Nat.le_of_ble_eq_true rfl) rfl (fun _ _ hf => t_Prog_setPlantValue hf) (fun _ h12 => ?_)
        refine J_aload_n (pc' := 83) ok (dOf dX10_change 43 rfl) rfl rfl rfl ?_
        refine J_getR (ci := 10) (kf := 2) (C := RX10) (T := TX10) (N := 14) (pc' := 86) ok (dOf dX10_change 44 rfl) rfl (by decide) rfl (by decide) win_10 wfl_X10_23 (fun a13 => ?_)
        refine J_getR (ci := 3) (kf := 0) (C := RX3) (T := TX3) (N := 12) (pc' := 89) ok (dOf dX10_change 45 rfl) rfl (by decide) rfl (by decide) win_3 wfl_X10_126 (fun a14 => ?_)
        refine J_callVv (k2 := kBook_forgetAll) (ci := 0) (T := TX0) (N := 2) (as := []) (pc' := 92) ok (dOf dX10_change 46 rfl) rfl (cw_Book_forgetAll (by decide) (by decide)) wml_X10_130 winst_X0_forgetAll wsel_X0_forgetAll rfl ⟨Nat.le_refl 0, Nat.le_refl 0⟩ (Nat.le_of_ble_eq_true rfl) rfl (fun _ _ hf => t_Book_forgetAll hf) (fun _ h15 => ?_)
        refine J_aload_n (pc' := 93) ok (dOf dX10_change 47 rfl) rfl rfl rfl ?_
        refine J_callVv (k2 := kSp_afterChange) (ci := 10) (T := TX10) (N := 14) (as := []) (pc' := 96) ok (dOf dX10_change 48 rfl) rfl (cw_Sp_afterChange (by decide) (by decide)) wml_X10_135 winst_X10_afterChange wsel_X10_afterChange rfl ⟨Nat.le_refl 0, Nat.le_refl 0⟩ (Nat.le_of_ble_eq_true rfl) rfl (fun _ _ hf => t_Sp_afterChange hf) (fun _ h16 => ?_)
        refine J_aload_n (pc' := 97) ok (dOf dX10_change 49 rfl) rfl rfl rfl ?_
        refine J_iload (pc' := 99) ok (dOf dX10_change 50 rfl) rfl rfl ?_
        refine J_callVi (k2 := kSp_accept) (ci := 10) (T := TX10) (N := 14) (as := [.int x8]) (pc' := 102) ok (dOf dX10_change 51 rfl) rfl (cw_Sp_accept (by decide) (by decide)) wml_X10_91 winst_X10_accept wsel_X10_accept rfl ⟨Nat.le_refl 0, Nat.le_refl 0⟩ (Nat.le_of_ble_eq_true rfl) rfl (fun _ _ hf => t_Sp_accept hf) (fun x18 h17 => ?_)
        exact J_ireturn ok (dOf dX10_change 52 rfl) rfl (Eq.refl 0) (Nat.le_refl 0)
      · refine J_aload_n (pc' := 55) ok (dOf dX10_change 28 rfl) rfl rfl rfl ?_
        refine J_bipush (v := (-4)) (pc' := 57) ok (dOf dX10_change 29 rfl) rfl (by decide) ?_
        refine J_callVi (k2 := kSp_refuse) (ci := 10) (T := TX10) (N := 14) (as := [.int (-4)]) (pc' := 60) ok (dOf dX10_change 30 rfl) rfl (cw_Sp_refuse (by decide) (by decide)) wml_X10_81 winst_X10_refuse wsel_X10_refuse rfl ⟨Nat.le_refl 0, Nat.le_refl 0⟩ (Nat.le_of_ble_eq_true rfl) rfl (fun _ _ hf => t_Sp_refuse hf) (fun x20 h19 => ?_)
        exact J_ireturn ok (dOf dX10_change 31 rfl) rfl (Eq.refl 0) (Nat.le_refl 0)
    · refine J_aload_n (pc' := 33) ok (dOf dX10_change 16 rfl) rfl rfl rfl ?_
      refine J_bipush (v := (-2)) (pc' := 35) ok (dOf dX10_change 17 rfl) rfl (by decide) ?_
      refine J_callVi (k2 := kSp_refuse) (ci := 10) (T := TX10) (N := 14) (as := [.int (-2)]) (pc' := 38) ok (dOf dX10_change 18 rfl) rfl (cw_Sp_refuse (by decide) (by decide)) wml_X10_81 winst_X10_refuse wsel_X10_refuse rfl ⟨Nat.le_refl 0, Nat.le_refl 0⟩ (Nat.le_of_ble_eq_true rfl) rfl (fun _ _ hf => t_Sp_refuse hf) (fun x22 h21 => ?_)
      exact J_ireturn ok (dOf dX10_change 19 rfl) rfl (Eq.refl 0) (Nat.le_refl 0)
  · refine J_aload_n (pc' := 18) ok (dOf dX10_change 8 rfl) rfl rfl rfl ?_
    refine J_iconst (v := (-1)) (pc' := 19) ok (dOf dX10_change 9 rfl) rfl (by decide) ?_
    refine J_callVi (k2 := kSp_refuse) (ci := 10) (T := TX10) (N := 14) (as := [.int (-1)]) (pc' := 22) ok (dOf dX10_change 10 rfl) rfl (cw_Sp_refuse (by decide) (by decide)) wml_X10_81 winst_X10_refuse wsel_X10_refuse rfl ⟨Nat.le_refl 0, Nat.le_refl 0⟩ (Nat.le_of_ble_eq_true rfl) rfl (fun _ _ hf => t_Sp_refuse hf) (fun x24 h23 => ?_)
    exact J_ireturn ok (dOf dX10_change 11 rfl) rfl (Eq.refl 0) (Nat.le_refl 0)
-- X2_baseOf
abbrev kCuts_baseOf : Cd := (yX2_baseOf, cX2_baseOf, 5, (some .int), 0, 0)
theorem dX2_baseOf : dcheck cX2_baseOf [(0, .iconst 0, 1), (1, .istore_n 3, 1), (2, .iconst 0, 1), (3, .istore 4, 2), (5, .iload 4, 2), (7, .aload_n 1, 1), (8, .getfield 59, 3), (11, .if_icmp .ge 42, 3), (14, .iload_n 3, 1), (15, .aload_n 1, 1), (16, .getfield 65, 3), (19, .aload_n 0, 1), (20, .getfield 15, 3), (23, .iload_n 2, 1), (24, .iaload, 1), (25, .bipush 6, 2), (27, .imul, 1), (28, .iload 4, 2), (30, .iadd, 1), (31, .iaload, 1), (32, .aload_n 0, 1), (33, .getfield 28, 3), (36, .iload_n 2, 1), (37, .bipush 6, 2), (39, .imul, 1), (40, .iload 4, 2), (42, .iadd, 1), (43, .iaload, 1), (44, .imul, 1), (45, .iadd, 1), (46, .istore_n 3, 1), (47, .iinc 4 1, 3), (50, .goto (-45), 3), (53, .iload_n 3, 1), (54, .ireturn, 1)] = true := by decide +kernel
theorem cw_Cuts_baseOf {k : Cd} (h1 : kCuts_baseOf.2.2.2.2.1 + 1 ≤ k.2.2.2.2.1) (h2 : 8 + (kCuts_baseOf.2.2.1 + 11) + kCuts_baseOf.2.2.2.2.2 ≤ k.2.2.2.2.2) : Cw k kCuts_baseOf 2 := ⟨wcode_X2_baseOf, wini_SplitProgram_Cuts, ⟨by decide, by decide, by decide +kernel⟩, h1, h2⟩
def Cuts_baseOf_b5 (v0 : Nat) (v1 : Nat) (v2 : Int32) (h : AHeap) (s : Int32 × Int32) : Option ((Int32 × Int32) ⊕ ((Int32 × Int32))) :=
  (gfI h v1 6 1).bind fun x1 => (if x1 ≤ s.2 then some (Sum.inr (s.1, s.2)) else (gfR h v1 6 8).bind fun a2 => (gfR h v0 2 2).bind fun a3 => (ald 0 h a3 v2).bind fun x4 => (ald 0 h a2 ((x4 * 6) + s.2)).bind fun x5 => (gfR h v0 2 6).bind fun a6 => (ald 0 h a6 ((v2 * 6) + s.2)).bind fun x7 => some (Sum.inl (s.1 + (x5 * x7), s.2 + 1)))
theorem Cuts_baseOf_b5_J {E : JE} {l : Launch} {G : GX} {r : Option Value} {h' : AHeap} (ok : JOK E l G kCuts_baseOf 0 0 r h') (v0 : Nat) (v1 : Nat) (v2 : Int32) (h : AHeap) {Y : (Int32 × Int32) ⊕ ((Int32 × Int32)) → Prop} (k1 : ∀ s' : Int32 × Int32, Y (.inl s') → JW E kCuts_baseOf 5 [some (.ref v0), some (.ref v1), some (.int v2), some (.int s'.1), some (.int s'.2)] [] h 0 0) (kx53 : ∀ q : Int32 × Int32, Y (.inr q) → JW E kCuts_baseOf 53 [some (.ref v0), some (.ref v1), some (.int v2), some (.int q.1), some (.int q.2)] [] h 0 0) (s : Int32 × Int32) : J E kCuts_baseOf (Cuts_baseOf_b5 v0 v1 v2 h s) Y 5 [some (.ref v0), some (.ref v1), some (.int v2), some (.int s.1), some (.int s.2)] [] h 0 0 := by
  unfold Cuts_baseOf_b5
  refine J_iload (pc' := 7) ok (dOf dX2_baseOf 4 rfl) rfl rfl ?_
  refine J_aload_n (pc' := 8) ok (dOf dX2_baseOf 5 rfl) rfl rfl rfl ?_
  refine J_getI (ci := 6) (kf := 1) (C := RX6) (T := TX6) (N := 9) (pc' := 11) ok (dOf dX2_baseOf 6 rfl) rfl (by decide) rfl (by decide) win_6 wfl_X2_59 (fun x1 => ?_)
  refine J_icmp_ge (tgt := 53) (pc' := 14) ok (dOf dX2_baseOf 7 rfl) rfl (by decide) ?_ ?_
  · exact J_fin (kx53 (s.1, s.2))
  · refine J_iload_n (pc' := 15) ok (dOf dX2_baseOf 8 rfl) rfl rfl rfl ?_
    refine J_aload_n (pc' := 16) ok (dOf dX2_baseOf 9 rfl) rfl rfl rfl ?_
    refine J_getR (ci := 6) (kf := 8) (C := RX6) (T := TX6) (N := 9) (pc' := 19) ok (dOf dX2_baseOf 10 rfl) rfl (by decide) rfl (by decide) win_6 wfl_X2_65 (fun a2 => ?_)
    refine J_aload_n (pc' := 20) ok (dOf dX2_baseOf 11 rfl) rfl rfl rfl ?_
    refine J_getR (ci := 2) (kf := 2) (C := RX2) (T := TX2) (N := 7) (pc' := 23) ok (dOf dX2_baseOf 12 rfl) rfl (by decide) rfl (by decide) win_2 wfl_X2_15 (fun a3 => ?_)
    refine J_iload_n (pc' := 24) ok (dOf dX2_baseOf 13 rfl) rfl rfl rfl ?_
    refine J_iald (pc' := 25) ok (dOf dX2_baseOf 14 rfl) rfl (fun x4 => ?_)
    refine J_bipush (v := 6) (pc' := 27) ok (dOf dX2_baseOf 15 rfl) rfl (by decide) ?_
    refine J_imul (pc' := 28) ok (dOf dX2_baseOf 16 rfl) rfl ?_
    refine J_iload (pc' := 30) ok (dOf dX2_baseOf 17 rfl) rfl rfl ?_
    refine J_iadd (pc' := 31) ok (dOf dX2_baseOf 18 rfl) rfl ?_
    refine J_iald (pc' := 32) ok (dOf dX2_baseOf 19 rfl) rfl (fun x5 => ?_)
    refine J_aload_n (pc' := 33) ok (dOf dX2_baseOf 20 rfl) rfl rfl rfl ?_
    refine J_getR (ci := 2) (kf := 6) (C := RX2) (T := TX2) (N := 7) (pc' := 36) ok (dOf dX2_baseOf 21 rfl) rfl (by decide) rfl (by decide) win_2 wfl_X2_28 (fun a6 => ?_)
    refine J_iload_n (pc' := 37) ok (dOf dX2_baseOf 22 rfl) rfl rfl rfl ?_
    refine J_bipush (v := 6) (pc' := 39) ok (dOf dX2_baseOf 23 rfl) rfl (by decide) ?_
    refine J_imul (pc' := 40) ok (dOf dX2_baseOf 24 rfl) rfl ?_
    refine J_iload (pc' := 42) ok (dOf dX2_baseOf 25 rfl) rfl rfl ?_
    refine J_iadd (pc' := 43) ok (dOf dX2_baseOf 26 rfl) rfl ?_
    refine J_iald (pc' := 44) ok (dOf dX2_baseOf 27 rfl) rfl (fun x7 => ?_)
    refine J_imul (pc' := 45) ok (dOf dX2_baseOf 28 rfl) rfl ?_
    refine J_iadd (pc' := 46) ok (dOf dX2_baseOf 29 rfl) rfl ?_
    refine J_istore_n (ls' := [some (.ref v0), some (.ref v1), some (.int v2), some (.int (s.1 + (x5 * x7))), some (.int s.2)]) (pc' := 47) ok (dOf dX2_baseOf 30 rfl) rfl rfl (Nat.le_of_ble_eq_true rfl) rfl rfl ?_
    refine J_iinc (v := s.2 + 1) (ls' := [some (.ref v0), some (.ref v1), some (.int v2), some (.int (s.1 + (x5 * x7))), some (.int (s.2 + 1))]) (pc' := 50) ok (dOf dX2_baseOf 31 rfl) rfl rfl (by rfl) (Nat.le_of_ble_eq_true rfl) rfl rfl ?_
    refine J_goto (tgt := 5) ok (dOf dX2_baseOf 32 rfl) (by decide) ?_
    exact J_fin (k1 (s.1 + (x5 * x7), s.2 + 1))
def Cuts_baseOf_j53 (v0 : Nat) (v1 : Nat) (v2 : Int32) (v3 : Int32) (v4 : Int32) (h : AHeap) : Option (Int32 × AHeap) :=
  some (v3, h)
theorem Cuts_baseOf_j53_J {E : JE} {l : Launch} {G : GX} {v : Int32} {h' : AHeap} (ok : JOK E l G kCuts_baseOf 0 0 (some (.int v)) h') (v0 : Nat) (v1 : Nat) (v2 : Int32) (v3 : Int32) (v4 : Int32) (h : AHeap) : J E kCuts_baseOf (Cuts_baseOf_j53 v0 v1 v2 v3 v4 h) (fun z => z = (v, h')) 53 [some (.ref v0), some (.ref v1), some (.int v2), some (.int v3), some (.int v4)] [] h 0 0 := by
  unfold Cuts_baseOf_j53
  refine J_iload_n (pc' := 54) ok (dOf dX2_baseOf 33 rfl) rfl rfl rfl ?_
  exact J_ireturn ok (dOf dX2_baseOf 34 rfl) rfl (Eq.refl 0) (Nat.le_refl 0)
def Cuts_baseOf (v0 : Nat) (v1 : Nat) (v2 : Int32) (h : AHeap) : Option (Int32 × AHeap) :=
  (iter (Cuts_baseOf_b5 v0 v1 v2 h) Lmax (0, 0)).bind (fun (q5 : Int32 × Int32) => Cuts_baseOf_j53 v0 v1 v2 q5.1 q5.2 h)
theorem t_Cuts_baseOf {l : Launch} {G : GX} {v0 : Nat} {v1 : Nat} {v2 : Int32} {h : AHeap} {v : Int32} {h1 : AHeap} (hf : Cuts_baseOf v0 v1 v2 h = some (v, h1)) : CT l G kCuts_baseOf 0 0 [.ref v0, .ref v1, .int v2] h (some (.int v)) h1 := by
  refine CT_of (ls := [some (.ref v0), some (.ref v1), some (.int v2), none, none]) (Z := fun z => z = (v, h1)) (by decide +kernel) (Nat.le_of_ble_eq_true rfl) hf rfl ⟨rfl, rfl, rfl, trivial⟩ (fun E ok => ?_)
  unfold Cuts_baseOf
  refine J_iconst (v := 0) (pc' := 1) ok (dOf dX2_baseOf 0 rfl) rfl (by decide) ?_
  refine J_istore_n (ls' := [some (.ref v0), some (.ref v1), some (.int v2), some (.int 0), none]) (pc' := 2) ok (dOf dX2_baseOf 1 rfl) rfl rfl (Nat.le_of_ble_eq_true rfl) rfl rfl ?_
  refine J_iconst (v := 0) (pc' := 3) ok (dOf dX2_baseOf 2 rfl) rfl (by decide) ?_
  refine J_istore (ls' := [some (.ref v0), some (.ref v1), some (.int v2), some (.int 0), some (.int 0)]) (pc' := 5) ok (dOf dX2_baseOf 3 rfl) rfl (Nat.le_of_ble_eq_true rfl) rfl rfl ?_
  refine J_iter (lf := fun z5 => [some (.ref v0), some (.ref v1), some (.int v2), some (.int z5.1), some (.int z5.2)]) (sf := fun _ => []) (hf := fun z5 => h) (px := (fun (q5 : Int32 × Int32) => 53)) (lx := (fun (q5 : Int32 × Int32) => [some (.ref v0), some (.ref v1), some (.int v2), some (.int q5.1), some (.int q5.2)])) (sx := (fun (q5 : Int32 × Int32) => [])) (hx := (fun (q5 : Int32 × Int32) => h)) (fun Y2 z5 m1 m2 => Cuts_baseOf_b5_J ok v0 v1 v2 h m1 m2 z5) (fun q5 => ?_) Lmax _
  exact Cuts_baseOf_j53_J ok v0 v1 v2 q5.1 q5.2 h
-- X2_slopeOf
abbrev kCuts_slopeOf : Cd := (yX2_slopeOf, cX2_slopeOf, 4, (some .int), 0, 0)
theorem dX2_slopeOf : dcheck cX2_slopeOf [(0, .aload_n 1, 1), (1, .getfield 68, 3), (4, .iload_n 3, 1), (5, .iaload, 1), (6, .aload_n 0, 1), (7, .getfield 25, 3), (10, .iload_n 2, 1), (11, .iconst 4, 1), (12, .imul, 1), (13, .iload_n 3, 1), (14, .iadd, 1), (15, .iaload, 1), (16, .imul, 1), (17, .ireturn, 1)] = true := by decide +kernel
theorem cw_Cuts_slopeOf {k : Cd} (h1 : kCuts_slopeOf.2.2.2.2.1 + 1 ≤ k.2.2.2.2.1) (h2 : 8 + (kCuts_slopeOf.2.2.1 + 11) + kCuts_slopeOf.2.2.2.2.2 ≤ k.2.2.2.2.2) : Cw k kCuts_slopeOf 3 := ⟨wcode_X2_slopeOf, wini_SplitProgram_Cuts, ⟨by decide, by decide, by decide +kernel⟩, h1, h2⟩
def Cuts_slopeOf (v0 : Nat) (v1 : Nat) (v2 : Int32) (v3 : Int32) (h : AHeap) : Option (Int32 × AHeap) :=
  (gfR h v1 6 4).bind fun a1 => (ald 0 h a1 v3).bind fun x2 => (gfR h v0 2 5).bind fun a3 => (ald 0 h a3 ((v2 * 4) + v3)).bind fun x4 => some (x2 * x4, h)
theorem t_Cuts_slopeOf {l : Launch} {G : GX} {v0 : Nat} {v1 : Nat} {v2 : Int32} {v3 : Int32} {h : AHeap} {v : Int32} {h1 : AHeap} (hf : Cuts_slopeOf v0 v1 v2 v3 h = some (v, h1)) : CT l G kCuts_slopeOf 0 0 [.ref v0, .ref v1, .int v2, .int v3] h (some (.int v)) h1 := by
  refine CT_of (ls := [some (.ref v0), some (.ref v1), some (.int v2), some (.int v3)]) (Z := fun z => z = (v, h1)) (by decide +kernel) (Nat.le_of_ble_eq_true rfl) hf rfl ⟨rfl, rfl, rfl, rfl, trivial⟩ (fun E ok => ?_)
  unfold Cuts_slopeOf
  refine J_aload_n (pc' := 1) ok (dOf dX2_slopeOf 0 rfl) rfl rfl rfl ?_
  refine J_getR (ci := 6) (kf := 4) (C := RX6) (T := TX6) (N := 9) (pc' := 4) ok (dOf dX2_slopeOf 1 rfl) rfl (by decide) rfl (by decide) win_6 wfl_X2_68 (fun a1 => ?_)
  refine J_iload_n (pc' := 5) ok (dOf dX2_slopeOf 2 rfl) rfl rfl rfl ?_
  refine J_iald (pc' := 6) ok (dOf dX2_slopeOf 3 rfl) rfl (fun x2 => ?_)
  refine J_aload_n (pc' := 7) ok (dOf dX2_slopeOf 4 rfl) rfl rfl rfl ?_
  refine J_getR (ci := 2) (kf := 5) (C := RX2) (T := TX2) (N := 7) (pc' := 10) ok (dOf dX2_slopeOf 5 rfl) rfl (by decide) rfl (by decide) win_2 wfl_X2_25 (fun a3 => ?_)
  refine J_iload_n (pc' := 11) ok (dOf dX2_slopeOf 6 rfl) rfl rfl rfl ?_
  refine J_iconst (v := 4) (pc' := 12) ok (dOf dX2_slopeOf 7 rfl) rfl (by decide) ?_
  refine J_imul (pc' := 13) ok (dOf dX2_slopeOf 8 rfl) rfl ?_
  refine J_iload_n (pc' := 14) ok (dOf dX2_slopeOf 9 rfl) rfl rfl rfl ?_
  refine J_iadd (pc' := 15) ok (dOf dX2_slopeOf 10 rfl) rfl ?_
  refine J_iald (pc' := 16) ok (dOf dX2_slopeOf 11 rfl) rfl (fun x4 => ?_)
  refine J_imul (pc' := 17) ok (dOf dX2_slopeOf 12 rfl) rfl ?_
  exact J_ireturn ok (dOf dX2_slopeOf 13 rfl) rfl (Eq.refl 0) (Nat.le_refl 0)
-- X1_include
abbrev kBnds_include : Cd := (yX1_include, cX1_include, 17, none, 1, 24)
theorem dX1_include : dcheck cX1_include [(0, .aload_n 2, 1), (1, .aload_n 1, 1), (2, .iload_n 3, 1), (3, .invokevirtual 39, 3), (6, .istore 4, 2), (8, .aload_n 2, 1), (9, .aload_n 1, 1), (10, .iload_n 3, 1), (11, .iconst 0, 1), (12, .invokevirtual 43, 3), (15, .istore 5, 2), (17, .aload_n 2, 1), (18, .aload_n 1, 1), (19, .iload_n 3, 1), (20, .iconst 1, 1), (21, .invokevirtual 43, 3), (24, .istore 6, 2), (26, .aload_n 2, 1), (27, .aload_n 1, 1), (28, .iload_n 3, 1), (29, .iconst 2, 1), (30, .invokevirtual 43, 3), (33, .istore 7, 2), (35, .aload_n 2, 1), (36, .aload_n 1, 1), (37, .iload_n 3, 1), (38, .iconst 3, 1), (39, .invokevirtual 43, 3), (42, .istore 8, 2), (44, .aload_n 2, 1), (45, .getfield 47, 3), (48, .iload_n 3, 1), (49, .iaload, 1), (50, .iconst 1, 1), (51, .if_icmp .ne 7, 3), (54, .iconst 1, 1), (55, .goto 4, 3), (58, .iconst 0, 1), (59, .istore 9, 2), (61, .aload_n 2, 1), (62, .getfield 50, 3), (65, .iload_n 3, 1), (66, .iaload, 1), (67, .sipush 256, 3), (70, .imul, 1), (71, .istore 10, 2), (73, .iconst 0, 1), (74, .istore 11, 2), (76, .iload 11, 2), (78, .aload_n 1, 1), (79, .getfield 53, 3), (82, .iconst 3, 1), (83, .iaload, 1), (84, .if_icmp .gt 190, 3), (87, .iconst 0, 1), (88, .istore 12, 2), (90, .iload 12, 2), (92, .aload_n 1, 1), (93, .getfield 53, 3), (96, .iconst 2, 1), (97, .iaload, 1), (98, .if_icmp .gt 170, 3), (101, .iconst 0, 1), (102, .istore 13, 2), (104, .iload 13, 2), (106, .aload_n 1, 1), (107, .getfield 53, 3), (110, .iconst 1, 1), (111, .iaload, 1), (112, .if_icmp .gt 150, 3), (115, .iload 4, 2), (117, .iload 11, 2), (119, .iload 8, 2), (121, .imul, 1), (122, .isub, 1), (123, .iload 12, 2), (125, .iload 7, 2), (127, .imul, 1), (128, .isub, 1), (129, .iload 13, 2), (131, .iload 6, 2), (133, .imul, 1), (134, .isub, 1), (135, .istore 14, 2), (137, .bipush 64, 2), (139, .iload 11, 2), (141, .imul, 1), (142, .bipush 16, 2), (144, .iload 12, 2), (146, .imul, 1), (147, .iadd, 1), (148, .iconst 4, 1), (149, .iload 13, 2), (151, .imul, 1), (152, .iadd, 1), (153, .istore 15, 2), (155, .iconst 0, 1), (156, .istore 16, 2), (158, .iload 16, 2), (160, .aload_n 1, 1), (161, .getfield 53, 3), (164, .iconst 0, 1), (165, .iaload, 1), (166, .if_icmp .gt 90, 3), (169, .iload 9, 2), (171, .ifCond .eq 39, 3), (174, .aload_n 0, 1), (175, .getfield 19, 3), (178, .iload 15, 2), (180, .iload 16, 2), (182, .iadd, 1), (183, .aload_n 0, 1), (184, .getfield 19, 3), (187, .iload 15, 2), (189, .iload 16, 2), (191, .iadd, 1), (192, .baload, 1), (193, .ifCond .ne 8, 3), (196, .iload 14, 2), (198, .ifCond .le 7, 3), (201, .iconst 1, 1), (202, .goto 4, 3), (205, .iconst 0, 1), (206, .bastore, 1), (207, .goto 36, 3), (210, .iload 14, 2), (212, .aload_n 0, 1), (213, .getfield 15, 3), (216, .iload 10, 2), (218, .iload 15, 2), (220, .iadd, 1), (221, .iload 16, 2), (223, .iadd, 1), (224, .iaload, 1), (225, .if_icmp .le 18, 3), (228, .aload_n 0, 1), (229, .getfield 15, 3), (232, .iload 10, 2), (234, .iload 15, 2), (236, .iadd, 1), (237, .iload 16, 2), (239, .iadd, 1), (240, .iload 14, 2), (242, .iastore, 1), (243, .iload 14, 2), (245, .iload 5, 2), (247, .isub, 1), (248, .istore 14, 2), (250, .iinc 16 1, 3), (253, .goto (-95), 3), (256, .iinc 13 1, 3), (259, .goto (-155), 3), (262, .iinc 12 1, 3), (265, .goto (-175), 3), (268, .iinc 11 1, 3), (271, .goto (-195), 3), (274, .return_, 1)] = true := by decide +kernel
theorem cw_Bnds_include {k : Cd} (h1 : kBnds_include.2.2.2.2.1 + 1 ≤ k.2.2.2.2.1) (h2 : 8 + (kBnds_include.2.2.1 + 11) + kBnds_include.2.2.2.2.2 ≤ k.2.2.2.2.2) : Cw k kBnds_include 3 := ⟨wcode_X1_include, wini_SplitProgram_Bounds, ⟨by decide, by decide, by decide +kernel⟩, h1, h2⟩
def Bnds_include_j243 (v0 : Nat) (v1 : Nat) (v2 : Nat) (v3 : Int32) (v4 : Int32) (v5 : Int32) (v6 : Int32) (v7 : Int32) (v8 : Int32) (v9 : Int32) (v10 : Int32) (v11 : Int32) (v12 : Int32) (v13 : Int32) (v14 : Int32) (v15 : Int32) (v16 : Int32) (h : AHeap) : Option ((Int32 × Int32 × AHeap) ⊕ ((Int32 × Int32 × AHeap))) :=
  some (Sum.inl (v14 - v5, v16 + 1, h))
theorem Bnds_include_j243_J {E : JE} {l : Launch} {G : GX} {r : Option Value} {h' : AHeap} (ok : JOK E l G kBnds_include 0 0 r h') (v0 : Nat) (v1 : Nat) (v2 : Nat) (v3 : Int32) (v4 : Int32) (v5 : Int32) (v6 : Int32) (v7 : Int32) (v8 : Int32) (v9 : Int32) (v10 : Int32) (v11 : Int32) (v12 : Int32) (v13 : Int32) (v14 : Int32) (v15 : Int32) (v16 : Int32) (h : AHeap) {Y : (Int32 × Int32 × AHeap) ⊕ ((Int32 × Int32 × AHeap)) → Prop} (k1 : ∀ s' : Int32 × Int32 × AHeap, Y (.inl s') → JW E kBnds_include 158 [some (.ref v0), some (.ref v1), some (.ref v2), some (.int v3), some (.int v4), some (.int v5), some (.int v6), some (.int v7), some (.int v8), some (.int v9), some (.int v10), some (.int v11), some (.int v12), some (.int v13), some (.int s'.1), some (.int v15), some (.int s'.2.1)] [] s'.2.2 0 0) (kx256 : ∀ q : Int32 × Int32 × AHeap, Y (.inr q) → JW E kBnds_include 256 [some (.ref v0), some (.ref v1), some (.ref v2), some (.int v3), some (.int v4), some (.int v5), some (.int v6), some (.int v7), some (.int v8), some (.int v9), some (.int v10), some (.int v11), some (.int v12), some (.int v13), some (.int q.1), some (.int v15), some (.int q.2.1)] [] q.2.2 0 0) : J E kBnds_include (Bnds_include_j243 v0 v1 v2 v3 v4 v5 v6 v7 v8 v9 v10 v11 v12 v13 v14 v15 v16 h) Y 243 [some (.ref v0), some (.ref v1), some (.ref v2), some (.int v3), some (.int v4), some (.int v5), some (.int v6), some (.int v7), some (.int v8), some (.int v9), some (.int v10), some (.int v11), some (.int v12), some (.int v13), some (.int v14), some (.int v15), some (.int v16)] [] h 0 0 := by
  unfold Bnds_include_j243
  refine J_iload (pc' := 245) ok (dOf dX1_include 144 rfl) rfl rfl ?_
  refine J_iload (pc' := 247) ok (dOf dX1_include 145 rfl) rfl rfl ?_
  refine J_isub (pc' := 248) ok (dOf dX1_include 146 rfl) rfl ?_
  refine J_istore (ls' := [some (.ref v0), some (.ref v1), some (.ref v2), some (.int v3), some (.int v4), some (.int v5), some (.int v6), some (.int v7), some (.int v8), some (.int v9), some (.int v10), some (.int v11), some (.int v12), some (.int v13), some (.int (v14 - v5)), some (.int v15), some (.int v16)]) (pc' := 250) ok (dOf dX1_include 147 rfl) rfl (Nat.le_of_ble_eq_true rfl) rfl rfl ?_
  refine J_iinc (v := v16 + 1) (ls' := [some (.ref v0), some (.ref v1), some (.ref v2), some (.int v3), some (.int v4), some (.int v5), some (.int v6), some (.int v7), some (.int v8), some (.int v9), some (.int v10), some (.int v11), some (.int v12), some (.int v13), some (.int (v14 - v5)), some (.int v15), some (.int (v16 + 1))]) (pc' := 253) ok (dOf dX1_include 148 rfl) rfl rfl (by rfl) (Nat.le_of_ble_eq_true rfl) rfl rfl ?_
  refine J_goto (tgt := 158) ok (dOf dX1_include 149 rfl) (by decide) ?_
  exact J_fin (k1 (v14 - v5, v16 + 1, h))
def Bnds_include_j206 (v0 : Nat) (v1 : Nat) (v2 : Nat) (v3 : Int32) (v4 : Int32) (v5 : Int32) (v6 : Int32) (v7 : Int32) (v8 : Int32) (v9 : Int32) (v10 : Int32) (v11 : Int32) (v12 : Int32) (v13 : Int32) (v14 : Int32) (v15 : Int32) (v16 : Int32) (t0 : Nat) (t1 : Int32) (t2 : Int32) (h : AHeap) : Option ((Int32 × Int32 × AHeap) ⊕ ((Int32 × Int32 × AHeap))) :=
  (ast 1 h t0 t1 t2).bind fun h30 => Bnds_include_j243 v0 v1 v2 v3 v4 v5 v6 v7 v8 v9 v10 v11 v12 v13 v14 v15 v16 h30
theorem Bnds_include_j206_J {E : JE} {l : Launch} {G : GX} {r : Option Value} {h' : AHeap} (ok : JOK E l G kBnds_include 0 0 r h') (v0 : Nat) (v1 : Nat) (v2 : Nat) (v3 : Int32) (v4 : Int32) (v5 : Int32) (v6 : Int32) (v7 : Int32) (v8 : Int32) (v9 : Int32) (v10 : Int32) (v11 : Int32) (v12 : Int32) (v13 : Int32) (v14 : Int32) (v15 : Int32) (v16 : Int32) (t0 : Nat) (t1 : Int32) (t2 : Int32) (h : AHeap) {Y : (Int32 × Int32 × AHeap) ⊕ ((Int32 × Int32 × AHeap)) → Prop} (k1 : ∀ s' : Int32 × Int32 × AHeap, Y (.inl s') → JW E kBnds_include 158 [some (.ref v0), some (.ref v1), some (.ref v2), some (.int v3), some (.int v4), some (.int v5), some (.int v6), some (.int v7), some (.int v8), some (.int v9), some (.int v10), some (.int v11), some (.int v12), some (.int v13), some (.int s'.1), some (.int v15), some (.int s'.2.1)] [] s'.2.2 0 0) (kx256 : ∀ q : Int32 × Int32 × AHeap, Y (.inr q) → JW E kBnds_include 256 [some (.ref v0), some (.ref v1), some (.ref v2), some (.int v3), some (.int v4), some (.int v5), some (.int v6), some (.int v7), some (.int v8), some (.int v9), some (.int v10), some (.int v11), some (.int v12), some (.int v13), some (.int q.1), some (.int v15), some (.int q.2.1)] [] q.2.2 0 0) : J E kBnds_include (Bnds_include_j206 v0 v1 v2 v3 v4 v5 v6 v7 v8 v9 v10 v11 v12 v13 v14 v15 v16 t0 t1 t2 h) Y 206 [some (.ref v0), some (.ref v1), some (.ref v2), some (.int v3), some (.int v4), some (.int v5), some (.int v6), some (.int v7), some (.int v8), some (.int v9), some (.int v10), some (.int v11), some (.int v12), some (.int v13), some (.int v14), some (.int v15), some (.int v16)] [.int t2, .int t1, .ref t0] h 0 0 := by
  unfold Bnds_include_j206
  refine J_zast (pc' := 207) ok (dOf dX1_include 123 rfl) rfl (fun h30 _ => ?_)
  refine J_goto (tgt := 243) ok (dOf dX1_include 124 rfl) (by decide) ?_
  exact Bnds_include_j243_J ok v0 v1 v2 v3 v4 v5 v6 v7 v8 v9 v10 v11 v12 v13 v14 v15 v16 h30 k1 kx256
def Bnds_include_j201 (v0 : Nat) (v1 : Nat) (v2 : Nat) (v3 : Int32) (v4 : Int32) (v5 : Int32) (v6 : Int32) (v7 : Int32) (v8 : Int32) (v9 : Int32) (v10 : Int32) (v11 : Int32) (v12 : Int32) (v13 : Int32) (v14 : Int32) (v15 : Int32) (v16 : Int32) (t0 : Nat) (t1 : Int32) (h : AHeap) : Option ((Int32 × Int32 × AHeap) ⊕ ((Int32 × Int32 × AHeap))) :=
  Bnds_include_j206 v0 v1 v2 v3 v4 v5 v6 v7 v8 v9 v10 v11 v12 v13 v14 v15 v16 t0 t1 1 h
theorem Bnds_include_j201_J {E : JE} {l : Launch} {G : GX} {r : Option Value} {h' : AHeap} (ok : JOK E l G kBnds_include 0 0 r h') (v0 : Nat) (v1 : Nat) (v2 : Nat) (v3 : Int32) (v4 : Int32) (v5 : Int32) (v6 : Int32) (v7 : Int32) (v8 : Int32) (v9 : Int32) (v10 : Int32) (v11 : Int32) (v12 : Int32) (v13 : Int32) (v14 : Int32) (v15 : Int32) (v16 : Int32) (t0 : Nat) (t1 : Int32) (h : AHeap) {Y : (Int32 × Int32 × AHeap) ⊕ ((Int32 × Int32 × AHeap)) → Prop} (k1 : ∀ s' : Int32 × Int32 × AHeap, Y (.inl s') → JW E kBnds_include 158 [some (.ref v0), some (.ref v1), some (.ref v2), some (.int v3), some (.int v4), some (.int v5), some (.int v6), some (.int v7), some (.int v8), some (.int v9), some (.int v10), some (.int v11), some (.int v12), some (.int v13), some (.int s'.1), some (.int v15), some (.int s'.2.1)] [] s'.2.2 0 0) (kx256 : ∀ q : Int32 × Int32 × AHeap, Y (.inr q) → JW E kBnds_include 256 [some (.ref v0), some (.ref v1), some (.ref v2), some (.int v3), some (.int v4), some (.int v5), some (.int v6), some (.int v7), some (.int v8), some (.int v9), some (.int v10), some (.int v11), some (.int v12), some (.int v13), some (.int q.1), some (.int v15), some (.int q.2.1)] [] q.2.2 0 0) : J E kBnds_include (Bnds_include_j201 v0 v1 v2 v3 v4 v5 v6 v7 v8 v9 v10 v11 v12 v13 v14 v15 v16 t0 t1 h) Y 201 [some (.ref v0), some (.ref v1), some (.ref v2), some (.int v3), some (.int v4), some (.int v5), some (.int v6), some (.int v7), some (.int v8), some (.int v9), some (.int v10), some (.int v11), some (.int v12), some (.int v13), some (.int v14), some (.int v15), some (.int v16)] [.int t1, .ref t0] h 0 0 := by
  unfold Bnds_include_j201
  refine J_iconst (v := 1) (pc' := 202) ok (dOf dX1_include 120 rfl) rfl (by decide) ?_
  refine J_goto (tgt := 206) ok (dOf dX1_include 121 rfl) (by decide) ?_
  exact Bnds_include_j206_J ok v0 v1 v2 v3 v4 v5 v6 v7 v8 v9 v10 v11 v12 v13 v14 v15 v16 t0 t1 1 h k1 kx256
def Bnds_include_b158 (v0 : Nat) (v1 : Nat) (v2 : Nat) (v3 : Int32) (v4 : Int32) (v5 : Int32) (v6 : Int32) (v7 : Int32) (v8 : Int32) (v9 : Int32) (v10 : Int32) (v11 : Int32) (v12 : Int32) (v13 : Int32) (v15 : Int32) (s : Int32 × Int32 × AHeap) : Option ((Int32 × Int32 × AHeap) ⊕ ((Int32 × Int32 × AHeap))) :=
  (gfR s.2.2 v1 6 5).bind fun a21 => (ald 0 s.2.2 a21 0).bind fun x22 => (if x22 < s.2.1 then some (Sum.inr (s.1, s.2.1, s.2.2)) else (if v9 = 0 then (gfR s.2.2 v0 1 1).bind fun a23 => (ald 0 s.2.2 a23 ((v10 + v15) + s.2.1)).bind fun x24 => (if s.1 ≤ x24 then Bnds_include_j243 v0 v1 v2 v3 v4 v5 v6 v7 v8 v9 v10 v11 v12 v13 s.1 v15 s.2.1 s.2.2 else (gfR s.2.2 v0 1 1).bind fun a25 => (ast 0 s.2.2 a25 ((v10 + v15) + s.2.1) s.1).bind fun h26 => Bnds_include_j243 v0 v1 v2 v3 v4 v5 v6 v7 v8 v9 v10 v11 v12 v13 s.1 v15 s.2.1 h26) else (gfR s.2.2 v0 1 2).bind fun a27 => (gfR s.2.2 v0 1 2).bind fun a28 => (ald 1 s.2.2 a28 (v15 + s.2.1)).bind fun x29 => (if ¬ x29 = 0 then Bnds_include_j201 v0 v1 v2 v3 v4 v5 v6 v7 v8 v9 v10 v11 v12 v13 s.1 v15 s.2.1 a27 (v15 + s.2.1) s.2.2 else (if s.1 ≤ 0 then Bnds_include_j206 v0 v1 v2 v3 v4 v5 v6 v7 v8 v9 v10 v11 v12 v13 s.1 v15 s.2.1 a27 (v15 + s.2.1) 0 s.2.2 else Bnds_include_j201 v0 v1 v2 v3 v4 v5 v6 v7 v8 v9 v10 v11 v12 v13 s.1 v15 s.2.1 a27 (v15 + s.2.1) s.2.2))))
theorem Bnds_include_b158_J {E : JE} {l : Launch} {G : GX} {r : Option Value} {h' : AHeap} (ok : JOK E l G kBnds_include 0 0 r h') (v0 : Nat) (v1 : Nat) (v2 : Nat) (v3 : Int32) (v4 : Int32) (v5 : Int32) (v6 : Int32) (v7 : Int32) (v8 : Int32) (v9 : Int32) (v10 : Int32) (v11 : Int32) (v12 : Int32) (v13 : Int32) (v15 : Int32) {Y : (Int32 × Int32 × AHeap) ⊕ ((Int32 × Int32 × AHeap)) → Prop} (k1 : ∀ s' : Int32 × Int32 × AHeap, Y (.inl s') → JW E kBnds_include 158 [some (.ref v0), some (.ref v1), some (.ref v2), some (.int v3), some (.int v4), some (.int v5), some (.int v6), some (.int v7), some (.int v8), some (.int v9), some (.int v10), some (.int v11), some (.int v12), some (.int v13), some (.int s'.1), some (.int v15), some (.int s'.2.1)] [] s'.2.2 0 0) (kx256 : ∀ q : Int32 × Int32 × AHeap, Y (.inr q) → JW E kBnds_include 256 [some (.ref v0), some (.ref v1), some (.ref v2), some (.int v3), some (.int v4), some (.int v5), some (.int v6), some (.int v7), some (.int v8), some (.int v9), some (.int v10), some (.int v11), some (.int v12), some (.int v13), some (.int q.1), some (.int v15), some (.int q.2.1)] [] q.2.2 0 0) (s : Int32 × Int32 × AHeap) : J E kBnds_include (Bnds_include_b158 v0 v1 v2 v3 v4 v5 v6 v7 v8 v9 v10 v11 v12 v13 v15 s) Y 158 [some (.ref v0), some (.ref v1), some (.ref v2), some (.int v3), some (.int v4), some (.int v5), some (.int v6), some (.int v7), some (.int v8), some (.int v9), some (.int v10), some (.int v11), some (.int v12), some (.int v13), some (.int s.1), some (.int v15), some (.int s.2.1)] [] s.2.2 0 0 := by
  unfold Bnds_include_b158
  refine J_iload (pc' := 160) ok (dOf dX1_include 98 rfl) rfl rfl ?_
  refine J_aload_n (pc' := 161) ok (dOf dX1_include 99 rfl) rfl rfl rfl ?_
  refine J_getR (ci := 6) (kf := 5) (C := RX6) (T := TX6) (N := 9) (pc' := 164) ok (dOf dX1_include 100 rfl) rfl (by decide) rfl (by decide) win_6 wfl_X1_53 (fun a21 => ?_)
  refine J_iconst (v := 0) (pc' := 165) ok (dOf dX1_include 101 rfl) rfl (by decide) ?_
  refine J_iald (pc' := 166) ok (dOf dX1_include 102 rfl) rfl (fun x22 => ?_)
  refine J_icmp_gt (tgt := 256) (pc' := 169) ok (dOf dX1_include 103 rfl) rfl (by decide) ?_ ?_
  · exact J_fin (kx256 (s.1, s.2.1, s.2.2))
  · refine J_iload (pc' := 171) ok (dOf dX1_include 104 rfl) rfl rfl ?_
    refine J_if_eq (tgt := 210) (pc' := 174) ok (dOf dX1_include 105 rfl) rfl (by decide) ?_ ?_
    · refine J_iload (pc' := 212) ok (dOf dX1_include 125 rfl) rfl rfl ?_
      refine J_aload_n (pc' := 213) ok (dOf dX1_include 126 rfl) rfl rfl rfl ?_
      refine J_getR (ci := 1) (kf := 1) (C := RX1) (T := TX1) (N := 3) (pc' := 216) ok (dOf dX1_include 127 rfl) rfl (by decide) rfl (by decide) win_1 wfl_X1_15 (fun a23 => ?_)
      refine J_iload (pc' := 218) ok (dOf dX1_include 128 rfl) rfl rfl ?_
      refine J_iload (pc' := 220) ok (dOf dX1_include 129 rfl) rfl rfl ?_
      refine J_iadd (pc' := 221) ok (dOf dX1_include 130 rfl) rfl ?_
      refine J_iload (pc' := 223) ok (dOf dX1_include 131 rfl) rfl rfl ?_
      refine J_iadd (pc' := 224) ok (dOf dX1_include 132 rfl) rfl ?_
      refine J_iald (pc' := 225) ok (dOf dX1_include 133 rfl) rfl (fun x24 => ?_)
      refine J_icmp_le (tgt := 243) (pc' := 228) ok (dOf dX1_include 134 rfl) rfl (by decide) ?_ ?_
      · exact Bnds_include_j243_J ok v0 v1 v2 v3 v4 v5 v6 v7 v8 v9 v10 v11 v12 v13 s.1 v15 s.2.1 s.2.2 k1 kx256
      · refine J_aload_n (pc' := 229) ok (dOf dX1_include 135 rfl) rfl rfl rfl ?_
        refine J_getR (ci := 1) (kf := 1) (C := RX1) (T := TX1) (N := 3) (pc' := 232) ok (dOf dX1_include 136 rfl) rfl (by decide) rfl (by decide) win_1 wfl_X1_15 (fun a25 => ?_)
        refine J_iload (pc' := 234) ok (dOf dX1_include 137 rfl) rfl rfl ?_
        refine J_iload (pc' := 236) ok (dOf dX1_include 138 rfl) rfl rfl ?_
        refine J_iadd (pc' := 237) ok (dOf dX1_include 139 rfl) rfl ?_
        refine J_iload (pc' := 239) ok (dOf dX1_include 140 rfl) rfl rfl ?_
        refine J_iadd (pc' := 240) ok (dOf dX1_include 141 rfl) rfl ?_
        refine J_iload (pc' := 242) ok (dOf dX1_include 142 rfl) rfl rfl ?_
        refine J_iast (pc' := 243) ok (dOf dX1_include 143 rfl) rfl (fun h26 _ => ?_)
        exact Bnds_include_j243_J ok v0 v1 v2 v3 v4 v5 v6 v7 v8 v9 v10 v11 v12 v13 s.1 v15 s.2.1 h26 k1 kx256
    · refine J_aload_n (pc' := 175) ok (dOf dX1_include 106 rfl) rfl rfl rfl ?_
      refine J_getR (ci := 1) (kf := 2) (C := RX1) (T := TX1) (N := 3) (pc' := 178) ok (dOf dX1_include 107 rfl) rfl (by decide) rfl (by decide) win_1 wfl_X1_19 (fun a27 => ?_)
      refine J_iload (pc' := 180) ok (dOf dX1_include 108 rfl) rfl rfl ?_
      refine J_iload (pc' := 182) ok (dOf dX1_include 109 rfl) rfl rfl ?_
      refine J_iadd (pc' := 183) ok (dOf dX1_include 110 rfl) rfl ?_
      refine J_aload_n (pc' := 184) ok (dOf dX1_include 111 rfl) rfl rfl rfl ?_
      refine J_getR (ci := 1) (kf := 2) (C := RX1) (T := TX1) (N := 3) (pc' := 187) ok (dOf dX1_include 112 rfl) rfl (by decide) rfl (by decide) win_1 wfl_X1_19 (fun a28 => ?_)
      refine J_iload (pc' := 189) ok (dOf dX1_include 113 rfl) rfl rfl ?_
      refine J_iload (pc' := 191) ok (dOf dX1_include 114 rfl) rfl rfl ?_
      refine J_iadd (pc' := 192) ok (dOf dX1_include 115 rfl) rfl ?_
      refine J_zald (pc' := 193) ok (dOf dX1_include 116 rfl) rfl (fun x29 => ?_)
      refine J_if_ne (tgt := 201) (pc' := 196) ok (dOf dX1_include 117 rfl) rfl (by decide) ?_ ?_
      · exact Bnds_include_j201_J ok v0 v1 v2 v3 v4 v5 v6 v7 v8 v9 v10 v11 v12 v13 s.1 v15 s.2.1 a27 (v15 + s.2.1) s.2.2 k1 kx256
      · refine J_iload (pc' := 198) ok (dOf dX1_include 118 rfl) rfl rfl ?_
        refine J_if_le (tgt := 205) (pc' := 201) ok (dOf dX1_include 119 rfl) rfl (by decide) ?_ ?_
        · refine J_iconst (v := 0) (pc' := 206) ok (dOf dX1_include 122 rfl) rfl (by decide) ?_
          exact Bnds_include_j206_J ok v0 v1 v2 v3 v4 v5 v6 v7 v8 v9 v10 v11 v12 v13 s.1 v15 s.2.1 a27 (v15 + s.2.1) 0 s.2.2 k1 kx256
        · exact Bnds_include_j201_J ok v0 v1 v2 v3 v4 v5 v6 v7 v8 v9 v10 v11 v12 v13 s.1 v15 s.2.1 a27 (v15 + s.2.1) s.2.2 k1 kx256
def Bnds_include_j256 (v0 : Nat) (v1 : Nat) (v2 : Nat) (v3 : Int32) (v4 : Int32) (v5 : Int32) (v6 : Int32) (v7 : Int32) (v8 : Int32) (v9 : Int32) (v10 : Int32) (v11 : Int32) (v12 : Int32) (v13 : Int32) (v14 : Int32) (v15 : Int32) (v16 : Int32) (h : AHeap) : Option ((Int32 × AHeap) ⊕ ((Int32 × AHeap))) :=
  some (Sum.inl (v13 + 1, h))
theorem Bnds_include_j256_J {E : JE} {l : Launch} {G : GX} {r : Option Value} {h' : AHeap} (ok : JOK E l G kBnds_include 0 0 r h') (v0 : Nat) (v1 : Nat) (v2 : Nat) (v3 : Int32) (v4 : Int32) (v5 : Int32) (v6 : Int32) (v7 : Int32) (v8 : Int32) (v9 : Int32) (v10 : Int32) (v11 : Int32) (v12 : Int32) (v13 : Int32) (v14 : Int32) (v15 : Int32) (v16 : Int32) (h : AHeap) {Y : (Int32 × AHeap) ⊕ ((Int32 × AHeap)) → Prop} (k1 : ∀ s' : Int32 × AHeap, Y (.inl s') → JW E kBnds_include 104 [some (.ref v0), some (.ref v1), some (.ref v2), some (.int v3), some (.int v4), some (.int v5), some (.int v6), some (.int v7), some (.int v8), some (.int v9), some (.int v10), some (.int v11), some (.int v12), some (.int s'.1), none, none, none] [] s'.2 0 0) (kx262 : ∀ q : Int32 × AHeap, Y (.inr q) → JW E kBnds_include 262 [some (.ref v0), some (.ref v1), some (.ref v2), some (.int v3), some (.int v4), some (.int v5), some (.int v6), some (.int v7), some (.int v8), some (.int v9), some (.int v10), some (.int v11), some (.int v12), some (.int q.1), none, none, none] [] q.2 0 0) : J E kBnds_include (Bnds_include_j256 v0 v1 v2 v3 v4 v5 v6 v7 v8 v9 v10 v11 v12 v13 v14 v15 v16 h) Y 256 [some (.ref v0), some (.ref v1), some (.ref v2), some (.int v3), some (.int v4), some (.int v5), some (.int v6), some (.int v7), some (.int v8), some (.int v9), some (.int v10), some (.int v11), some (.int v12), some (.int v13), some (.int v14), some (.int v15), some (.int v16)] [] h 0 0 := by
  unfold Bnds_include_j256
  refine J_iinc (v := v13 + 1) (ls' := [some (.ref v0), some (.ref v1), some (.ref v2), some (.int v3), some (.int v4), some (.int v5), some (.int v6), some (.int v7), some (.int v8), some (.int v9), some (.int v10), some (.int v11), some (.int v12), some (.int (v13 + 1)), some (.int v14), some (.int v15), some (.int v16)]) (pc' := 259) ok (dOf dX1_include 150 rfl) rfl rfl (by rfl) (Nat.le_of_ble_eq_true rfl) rfl rfl ?_
  refine J_goto (tgt := 104) ok (dOf dX1_include 151 rfl) (by decide) ?_
  refine J_weak (ls' := [some (.ref v0), some (.ref v1), some (.ref v2), some (.int v3), some (.int v4), some (.int v5), some (.int v6), some (.int v7), some (.int v8), some (.int v9), some (.int v10), some (.int v11), some (.int v12), some (.int (v13 + 1)), none, none, none]) ⟨rfl, rfl, rfl, rfl, rfl, rfl, rfl, rfl, rfl, rfl, rfl, rfl, rfl, rfl, trivial⟩ ?_
  exact J_fin (k1 (v13 + 1, h))
def Bnds_include_b104 (v0 : Nat) (v1 : Nat) (v2 : Nat) (v3 : Int32) (v4 : Int32) (v5 : Int32) (v6 : Int32) (v7 : Int32) (v8 : Int32) (v9 : Int32) (v10 : Int32) (v11 : Int32) (v12 : Int32) (s : Int32 × AHeap) : Option ((Int32 × AHeap) ⊕ ((Int32 × AHeap))) :=
  (gfR s.2 v1 6 5).bind fun a19 => (ald 0 s.2 a19 1).bind fun x20 => (if x20 < s.1 then some (Sum.inr (s.1, s.2)) else (iter (Bnds_include_b158 v0 v1 v2 v3 v4 v5 v6 v7 v8 v9 v10 v11 v12 s.1 (((64 * v11) + (16 * v12)) + (4 * s.1))) Lmax (((v4 - (v11 * v8)) - (v12 * v7)) - (s.1 * v6), 0, s.2)).bind (fun (q158 : Int32 × Int32 × AHeap) => Bnds_include_j256 v0 v1 v2 v3 v4 v5 v6 v7 v8 v9 v10 v11 v12 s.1 q158.1 (((64 * v11) + (16 * v12)) + (4 * s.1)) q158.2.1 q158.2.2))
theorem Bnds_include_b104_J {E : JE} {l : Launch} {G : GX} {r : Option Value} {h' : AHeap} (ok : JOK E l G kBnds_include 0 0 r h') (v0 : Nat) (v1 : Nat) (v2 : Nat) (v3 : Int32) (v4 : Int32) (v5 : Int32) (v6 : Int32) (v7 : Int32) (v8 : Int32) (v9 : Int32) (v10 : Int32) (v11 : Int32) (v12 : Int32) {Y : (Int32 × AHeap) ⊕ ((Int32 × AHeap)) → Prop} (k1 : ∀ s' : Int32 × AHeap, Y (.inl s') → JW E kBnds_include 104 [some (.ref v0), some (.ref v1), some (.ref v2), some (.int v3), some (.int v4), some (.int v5), some (.int v6), some (.int v7), some (.int v8), some (.int v9), some (.int v10), some (.int v11), some (.int v12), some (.int s'.1), none, none, none] [] s'.2 0 0) (kx262 : ∀ q : Int32 × AHeap, Y (.inr q) → JW E kBnds_include 262 [some (.ref v0), some (.ref v1), some (.ref v2), some (.int v3), some (.int v4), some (.int v5), some (.int v6), some (.int v7), some (.int v8), some (.int v9), some (.int v10), some (.int v11), some (.int v12), some (.int q.1), none, none, none] [] q.2 0 0) (s : Int32 × AHeap) : J E kBnds_include (Bnds_include_b104 v0 v1 v2 v3 v4 v5 v6 v7 v8 v9 v10 v11 v12 s) Y 104 [some (.ref v0), some (.ref v1), some (.ref v2), some (.int v3), some (.int v4), some (.int v5), some (.int v6), some (.int v7), some (.int v8), some (.int v9), some (.int v10), some (.int v11), some (.int v12), some (.int s.1), none, none, none] [] s.2 0 0 := by
  unfold Bnds_include_b104
  refine J_iload (pc' := 106) ok (dOf dX1_include 64 rfl) rfl rfl ?_
  refine J_aload_n (pc' := 107) ok (dOf dX1_include 65 rfl) rfl rfl rfl ?_
  refine J_getR (ci := 6) (kf := 5) (C := RX6) (T := TX6) (N := 9) (pc' := 110) ok (dOf dX1_include 66 rfl) rfl (by decide) rfl (by decide) win_6 wfl_X1_53 (fun a19 => ?_)
  refine J_iconst (v := 1) (pc' := 111) ok (dOf dX1_include 67 rfl) rfl (by decide) ?_
  refine J_iald (pc' := 112) ok (dOf dX1_include 68 rfl) rfl (fun x20 => ?_)
  refine J_icmp_gt (tgt := 262) (pc' := 115) ok (dOf dX1_include 69 rfl) rfl (by decide) ?_ ?_
  · exact J_fin (kx262 (s.1, s.2))
  · refine J_iload (pc' := 117) ok (dOf dX1_include 70 rfl) rfl rfl ?_
    refine J_iload (pc' := 119) ok (dOf dX1_include 71 rfl) rfl rfl ?_
    refine J_iload (pc' := 121) ok (dOf dX1_include 72 rfl) rfl rfl ?_
    refine J_imul (pc' := 122) ok (dOf dX1_include 73 rfl) rfl ?_
    refine J_isub (pc' := 123) ok (dOf dX1_include 74 rfl) rfl ?_
    refine J_iload (pc' := 125) ok (dOf dX1_include 75 rfl) rfl rfl ?_
    refine J_iload (pc' := 127) ok (dOf dX1_include 76 rfl) rfl rfl ?_
    refine J_imul (pc' := 128) ok (dOf dX1_include 77 rfl) rfl ?_
    refine J_isub (pc' := 129) ok (dOf dX1_include 78 rfl) rfl ?_
    refine J_iload (pc' := 131) ok (dOf dX1_include 79 rfl) rfl rfl ?_
    refine J_iload (pc' := 133) ok (dOf dX1_include 80 rfl) rfl rfl ?_
    refine J_imul (pc' := 134) ok (dOf dX1_include 81 rfl) rfl ?_
    refine J_isub (pc' := 135) ok (dOf dX1_include 82 rfl) rfl ?_
    refine J_istore (ls' := [some (.ref v0), some (.ref v1), some (.ref v2), some (.int v3), some (.int v4), some (.int v5), some (.int v6), some (.int v7), some (.int v8), some (.int v9), some (.int v10), some (.int v11), some (.int v12), some (.int s.1), some (.int (((v4 - (v11 * v8)) - (v12 * v7)) - (s.1 * v6))), none, none]) (pc' := 137) ok (dOf dX1_include 83 rfl) rfl (Nat.le_of_ble_eq_true rfl) rfl rfl ?_
    refine J_bipush (v := 64) (pc' := 139) ok (dOf dX1_include 84 rfl) rfl (by decide) ?_
    refine J_iload (pc' := 141) ok (dOf dX1_include 85 rfl) rfl rfl ?_
    refine J_imul (pc' := 142) ok (dOf dX1_include 86 rfl) rfl ?_
    refine J_bipush (v := 16) (pc' := 144) ok (dOf dX1_include 87 rfl) rfl (by decide) ?_
    refine J_iload (pc' := 146) ok (dOf dX1_include 88 rfl) rfl rfl ?_
    refine J_imul (pc' := 147) ok (dOf dX1_include 89 rfl) rfl ?_
    refine J_iadd (pc' := 148) ok (dOf dX1_include 90 rfl) rfl ?_
    refine J_iconst (v := 4) (pc' := 149) ok (dOf dX1_include 91 rfl) rfl (by decide) ?_
    refine J_iload (pc' := 151) ok (dOf dX1_include 92 rfl) rfl rfl ?_
    refine J_imul (pc' := 152) ok (dOf dX1_include 93 rfl) rfl ?_
    refine J_iadd (pc' := 153) ok (dOf dX1_include 94 rfl) rfl ?_
    refine J_istore (ls' := [some (.ref v0), some (.ref v1), some (.ref v2), some (.int v3), some (.int v4), some (.int v5), some (.int v6), some (.int v7), some (.int v8), some (.int v9), some (.int v10), some (.int v11), some (.int v12), some (.int s.1), some (.int (((v4 - (v11 * v8)) - (v12 * v7)) - (s.1 * v6))), some (.int (((64 * v11) + (16 * v12)) + (4 * s.1))), none]) (pc' := 155) ok (dOf dX1_include 95 rfl) rfl (Nat.le_of_ble_eq_true rfl) rfl rfl ?_
    refine J_iconst (v := 0) (pc' := 156) ok (dOf dX1_include 96 rfl) rfl (by decide) ?_
    refine J_istore (ls' := [some (.ref v0), some (.ref v1), some (.ref v2), some (.int v3), some (.int v4), some (.int v5), some (.int v6), some (.int v7), some (.int v8), some (.int v9), some (.int v10), some (.int v11), some (.int v12), some (.int s.1), some (.int (((v4 - (v11 * v8)) - (v12 * v7)) - (s.1 * v6))), some (.int (((64 * v11) + (16 * v12)) + (4 * s.1))), some (.int 0)]) (pc' := 158) ok (dOf dX1_include 97 rfl) rfl (Nat.le_of_ble_eq_true rfl) rfl rfl ?_
    refine J_iter (lf := fun z158 => [some (.ref v0), some (.ref v1), some (.ref v2), some (.int v3), some (.int v4), some (.int v5), some (.int v6), some (.int v7), some (.int v8), some (.int v9), some (.int v10), some (.int v11), some (.int v12), some (.int s.1), some (.int z158.1), some (.int (((64 * v11) + (16 * v12)) + (4 * s.1))), some (.int z158.2.1)]) (sf := fun _ => []) (hf := fun z158 => z158.2.2) (px := (fun (q158 : Int32 × Int32 × AHeap) => 256)) (lx := (fun (q158 : Int32 × Int32 × AHeap) => [some (.ref v0), some (.ref v1), some (.ref v2), some (.int v3), some (.int v4), some (.int v5), some (.int v6), some (.int v7), some (.int v8), some (.int v9), some (.int v10), some (.int v11), some (.int v12), some (.int s.1), some (.int q158.1), some (.int (((64 * v11) + (16 * v12)) + (4 * s.1))), some (.int q158.2.1)])) (sx := (fun (q158 : Int32 × Int32 × AHeap) => [])) (hx := (fun (q158 : Int32 × Int32 × AHeap) => q158.2.2)) (fun Y2 z158 m1 m2 => Bnds_include_b158_J ok v0 v1 v2 v3 v4 v5 v6 v7 v8 v9 v10 v11 v12 s.1 (((64 * v11) + (16 * v12)) + (4 * s.1)) m1 m2 z158) (fun q158 => ?_) Lmax _
    exact Bnds_include_j256_J ok v0 v1 v2 v3 v4 v5 v6 v7 v8 v9 v10 v11 v12 s.1 q158.1 (((64 * v11) + (16 * v12)) + (4 * s.1)) q158.2.1 q158.2.2 k1 kx262
def Bnds_include_j262 (v0 : Nat) (v1 : Nat) (v2 : Nat) (v3 : Int32) (v4 : Int32) (v5 : Int32) (v6 : Int32) (v7 : Int32) (v8 : Int32) (v9 : Int32) (v10 : Int32) (v11 : Int32) (v12 : Int32) (v13 : Int32) (h : AHeap) : Option ((Int32 × AHeap) ⊕ ((Int32 × AHeap))) :=
  some (Sum.inl (v12 + 1, h))
theorem Bnds_include_j262_J {E : JE} {l : Launch} {G : GX} {r : Option Value} {h' : AHeap} (ok : JOK E l G kBnds_include 0 0 r h') (v0 : Nat) (v1 : Nat) (v2 : Nat) (v3 : Int32) (v4 : Int32) (v5 : Int32) (v6 : Int32) (v7 : Int32) (v8 : Int32) (v9 : Int32) (v10 : Int32) (v11 : Int32) (v12 : Int32) (v13 : Int32) (h : AHeap) {Y : (Int32 × AHeap) ⊕ ((Int32 × AHeap)) → Prop} (k1 : ∀ s' : Int32 × AHeap, Y (.inl s') → JW E kBnds_include 90 [some (.ref v0), some (.ref v1), some (.ref v2), some (.int v3), some (.int v4), some (.int v5), some (.int v6), some (.int v7), some (.int v8), some (.int v9), some (.int v10), some (.int v11), some (.int s'.1), none, none, none, none] [] s'.2 0 0) (kx268 : ∀ q : Int32 × AHeap, Y (.inr q) → JW E kBnds_include 268 [some (.ref v0), some (.ref v1), some (.ref v2), some (.int v3), some (.int v4), some (.int v5), some (.int v6), some (.int v7), some (.int v8), some (.int v9), some (.int v10), some (.int v11), some (.int q.1), none, none, none, none] [] q.2 0 0) : J E kBnds_include (Bnds_include_j262 v0 v1 v2 v3 v4 v5 v6 v7 v8 v9 v10 v11 v12 v13 h) Y 262 [some (.ref v0), some (.ref v1), some (.ref v2), some (.int v3), some (.int v4), some (.int v5), some (.int v6), some (.int v7), some (.int v8), some (.int v9), some (.int v10), some (.int v11), some (.int v12), some (.int v13), none, none, none] [] h 0 0 := by
  unfold Bnds_include_j262
  refine J_iinc (v := v12 + 1) (ls' := [some (.ref v0), some (.ref v1), some (.ref v2), some (.int v3), some (.int v4), some (.int v5), some (.int v6), some (.int v7), some (.int v8), some (.int v9), some (.int v10), some (.int v11), some (.int (v12 + 1)), some (.int v13), none, none, none]) (pc' := 265) ok (dOf dX1_include 152 rfl) rfl rfl (by rfl) (Nat.le_of_ble_eq_true rfl) rfl rfl ?_
  refine J_goto (tgt := 90) ok (dOf dX1_include 153 rfl) (by decide) ?_
  refine J_weak (ls' := [some (.ref v0), some (.ref v1), some (.ref v2), some (.int v3), some (.int v4), some (.int v5), some (.int v6), some (.int v7), some (.int v8), some (.int v9), some (.int v10), some (.int v11), some (.int (v12 + 1)), none, none, none, none]) ⟨rfl, rfl, rfl, rfl, rfl, rfl, rfl, rfl, rfl, rfl, rfl, rfl, rfl, trivial⟩ ?_
  exact J_fin (k1 (v12 + 1, h))
def Bnds_include_b90 (v0 : Nat) (v1 : Nat) (v2 : Nat) (v3 : Int32) (v4 : Int32) (v5 : Int32) (v6 : Int32) (v7 : Int32) (v8 : Int32) (v9 : Int32) (v10 : Int32) (v11 : Int32) (s : Int32 × AHeap) : Option ((Int32 × AHeap) ⊕ ((Int32 × AHeap))) :=
  (gfR s.2 v1 6 5).bind fun a17 => (ald 0 s.2 a17 2).bind fun x18 => (if x18 < s.1 then some (Sum.inr (s.1, s.2)) else (iter (Bnds_include_b104 v0 v1 v2 v3 v4 v5 v6 v7 v8 v9 v10 v11 s.1) Lmax (0, s.2)).bind (fun (q104 : Int32 × AHeap) => Bnds_include_j262 v0 v1 v2 v3 v4 v5 v6 v7 v8 v9 v10 v11 s.1 q104.1 q104.2))
theorem Bnds_include_b90_J {E : JE} {l : Launch} {G : GX} {r : Option Value} {h' : AHeap} (ok : JOK E l G kBnds_include 0 0 r h') (v0 : Nat) (v1 : Nat) (v2 : Nat) (v3 : Int32) (v4 : Int32) (v5 : Int32) (v6 : Int32) (v7 : Int32) (v8 : Int32) (v9 : Int32) (v10 : Int32) (v11 : Int32) {Y : (Int32 × AHeap) ⊕ ((Int32 × AHeap)) → Prop} (k1 : ∀ s' : Int32 × AHeap, Y (.inl s') → JW E kBnds_include 90 [some (.ref v0), some (.ref v1), some (.ref v2), some (.int v3), some (.int v4), some (.int v5), some (.int v6), some (.int v7), some (.int v8), some (.int v9), some (.int v10), some (.int v11), some (.int s'.1), none, none, none, none] [] s'.2 0 0) (kx268 : ∀ q : Int32 × AHeap, Y (.inr q) → JW E kBnds_include 268 [some (.ref v0), some (.ref v1), some (.ref v2), some (.int v3), some (.int v4), some (.int v5), some (.int v6), some (.int v7), some (.int v8), some (.int v9), some (.int v10), some (.int v11), some (.int q.1), none, none, none, none] [] q.2 0 0) (s : Int32 × AHeap) : J E kBnds_include (Bnds_include_b90 v0 v1 v2 v3 v4 v5 v6 v7 v8 v9 v10 v11 s) Y 90 [some (.ref v0), some (.ref v1), some (.ref v2), some (.int v3), some (.int v4), some (.int v5), some (.int v6), some (.int v7), some (.int v8), some (.int v9), some (.int v10), some (.int v11), some (.int s.1), none, none, none, none] [] s.2 0 0 := by
  unfold Bnds_include_b90
  refine J_iload (pc' := 92) ok (dOf dX1_include 56 rfl) rfl rfl ?_
  refine J_aload_n (pc' := 93) ok (dOf dX1_include 57 rfl) rfl rfl rfl ?_
  refine J_getR (ci := 6) (kf := 5) (C := RX6) (T := TX6) (N := 9) (pc' := 96) ok (dOf dX1_include 58 rfl) rfl (by decide) rfl (by decide) win_6 wfl_X1_53 (fun a17 => ?_)
  refine J_iconst (v := 2) (pc' := 97) ok (dOf dX1_include 59 rfl) rfl (by decide) ?_
  refine J_iald (pc' := 98) ok (dOf dX1_include 60 rfl) rfl (fun x18 => ?_)
  refine J_icmp_gt (tgt := 268) (pc' := 101) ok (dOf dX1_include 61 rfl) rfl (by decide) ?_ ?_
  · exact J_fin (kx268 (s.1, s.2))
  · refine J_iconst (v := 0) (pc' := 102) ok (dOf dX1_include 62 rfl) rfl (by decide) ?_
    refine J_istore (ls' := [some (.ref v0), some (.ref v1), some (.ref v2), some (.int v3), some (.int v4), some (.int v5), some (.int v6), some (.int v7), some (.int v8), some (.int v9), some (.int v10), some (.int v11), some (.int s.1), some (.int 0), none, none, none]) (pc' := 104) ok (dOf dX1_include 63 rfl) rfl (Nat.le_of_ble_eq_true rfl) rfl rfl ?_
    refine J_iter (lf := fun z104 => [some (.ref v0), some (.ref v1), some (.ref v2), some (.int v3), some (.int v4), some (.int v5), some (.int v6), some (.int v7), some (.int v8), some (.int v9), some (.int v10), some (.int v11), some (.int s.1), some (.int z104.1), none, none, none]) (sf := fun _ => []) (hf := fun z104 => z104.2) (px := (fun (q104 : Int32 × AHeap) => 262)) (lx := (fun (q104 : Int32 × AHeap) => [some (.ref v0), some (.ref v1), some (.ref v2), some (.int v3), some (.int v4), some (.int v5), some (.int v6), some (.int v7), some (.int v8), some (.int v9), some (.int v10), some (.int v11), some (.int s.1), some (.int q104.1), none, none, none])) (sx := (fun (q104 : Int32 × AHeap) => [])) (hx := (fun (q104 : Int32 × AHeap) => q104.2)) (fun Y2 z104 m1 m2 => Bnds_include_b104_J ok v0 v1 v2 v3 v4 v5 v6 v7 v8 v9 v10 v11 s.1 m1 m2 z104) (fun q104 => ?_) Lmax _
    exact Bnds_include_j262_J ok v0 v1 v2 v3 v4 v5 v6 v7 v8 v9 v10 v11 s.1 q104.1 q104.2 k1 kx268
def Bnds_include_j268 (v0 : Nat) (v1 : Nat) (v2 : Nat) (v3 : Int32) (v4 : Int32) (v5 : Int32) (v6 : Int32) (v7 : Int32) (v8 : Int32) (v9 : Int32) (v10 : Int32) (v11 : Int32) (v12 : Int32) (h : AHeap) : Option ((Int32 × AHeap) ⊕ ((Int32 × AHeap))) :=
  some (Sum.inl (v11 + 1, h))
theorem Bnds_include_j268_J {E : JE} {l : Launch} {G : GX} {r : Option Value} {h' : AHeap} (ok : JOK E l G kBnds_include 0 0 r h') (v0 : Nat) (v1 : Nat) (v2 : Nat) (v3 : Int32) (v4 : Int32) (v5 : Int32) (v6 : Int32) (v7 : Int32) (v8 : Int32) (v9 : Int32) (v10 : Int32) (v11 : Int32) (v12 : Int32) (h : AHeap) {Y : (Int32 × AHeap) ⊕ ((Int32 × AHeap)) → Prop} (k1 : ∀ s' : Int32 × AHeap, Y (.inl s') → JW E kBnds_include 76 [some (.ref v0), some (.ref v1), some (.ref v2), some (.int v3), some (.int v4), some (.int v5), some (.int v6), some (.int v7), some (.int v8), some (.int v9), some (.int v10), some (.int s'.1), none, none, none, none, none] [] s'.2 0 0) (kx274 : ∀ q : Int32 × AHeap, Y (.inr q) → JW E kBnds_include 274 [some (.ref v0), some (.ref v1), some (.ref v2), some (.int v3), some (.int v4), some (.int v5), some (.int v6), some (.int v7), some (.int v8), some (.int v9), some (.int v10), some (.int q.1), none, none, none, none, none] [] q.2 0 0) : J E kBnds_include (Bnds_include_j268 v0 v1 v2 v3 v4 v5 v6 v7 v8 v9 v10 v11 v12 h) Y 268 [some (.ref v0), some (.ref v1), some (.ref v2), some (.int v3), some (.int v4), some (.int v5), some (.int v6), some (.int v7), some (.int v8), some (.int v9), some (.int v10), some (.int v11), some (.int v12), none, none, none, none] [] h 0 0 := by
  unfold Bnds_include_j268
  refine J_iinc (v := v11 + 1) (ls' := [some (.ref v0), some (.ref v1), some (.ref v2), some (.int v3), some (.int v4), some (.int v5), some (.int v6), some (.int v7), some (.int v8), some (.int v9), some (.int v10), some (.int (v11 + 1)), some (.int v12), none, none, none, none]) (pc' := 271) ok (dOf dX1_include 154 rfl) rfl rfl (by rfl) (Nat.le_of_ble_eq_true rfl) rfl rfl ?_
  refine J_goto (tgt := 76) ok (dOf dX1_include 155 rfl) (by decide) ?_
  refine J_weak (ls' := [some (.ref v0), some (.ref v1), some (.ref v2), some (.int v3), some (.int v4), some (.int v5), some (.int v6), some (.int v7), some (.int v8), some (.int v9), some (.int v10), some (.int (v11 + 1)), none, none, none, none, none]) ⟨rfl, rfl, rfl, rfl, rfl, rfl, rfl, rfl, rfl, rfl, rfl, rfl, trivial⟩ ?_
  exact J_fin (k1 (v11 + 1, h))
def Bnds_include_b76 (v0 : Nat) (v1 : Nat) (v2 : Nat) (v3 : Int32) (v4 : Int32) (v5 : Int32) (v6 : Int32) (v7 : Int32) (v8 : Int32) (v9 : Int32) (v10 : Int32) (s : Int32 × AHeap) : Option ((Int32 × AHeap) ⊕ ((Int32 × AHeap))) :=
  (gfR s.2 v1 6 5).bind fun a15 => (ald 0 s.2 a15 3).bind fun x16 => (if x16 < s.1 then some (Sum.inr (s.1, s.2)) else (iter (Bnds_include_b90 v0 v1 v2 v3 v4 v5 v6 v7 v8 v9 v10 s.1) Lmax (0, s.2)).bind (fun (q90 : Int32 × AHeap) => Bnds_include_j268 v0 v1 v2 v3 v4 v5 v6 v7 v8 v9 v10 s.1 q90.1 q90.2))
theorem Bnds_include_b76_J {E : JE} {l : Launch} {G : GX} {r : Option Value} {h' : AHeap} (ok : JOK E l G kBnds_include 0 0 r h') (v0 : Nat) (v1 : Nat) (v2 : Nat) (v3 : Int32) (v4 : Int32) (v5 : Int32) (v6 : Int32) (v7 : Int32) (v8 : Int32) (v9 : Int32) (v10 : Int32) {Y : (Int32 × AHeap) ⊕ ((Int32 × AHeap)) → Prop} (k1 : ∀ s' : Int32 × AHeap, Y (.inl s') → JW E kBnds_include 76 [some (.ref v0), some (.ref v1), some (.ref v2), some (.int v3), some (.int v4), some (.int v5), some (.int v6), some (.int v7), some (.int v8), some (.int v9), some (.int v10), some (.int s'.1), none, none, none, none, none] [] s'.2 0 0) (kx274 : ∀ q : Int32 × AHeap, Y (.inr q) → JW E kBnds_include 274 [some (.ref v0), some (.ref v1), some (.ref v2), some (.int v3), some (.int v4), some (.int v5), some (.int v6), some (.int v7), some (.int v8), some (.int v9), some (.int v10), some (.int q.1), none, none, none, none, none] [] q.2 0 0) (s : Int32 × AHeap) : J E kBnds_include (Bnds_include_b76 v0 v1 v2 v3 v4 v5 v6 v7 v8 v9 v10 s) Y 76 [some (.ref v0), some (.ref v1), some (.ref v2), some (.int v3), some (.int v4), some (.int v5), some (.int v6), some (.int v7), some (.int v8), some (.int v9), some (.int v10), some (.int s.1), none, none, none, none, none] [] s.2 0 0 := by
  unfold Bnds_include_b76
  refine J_iload (pc' := 78) ok (dOf dX1_include 48 rfl) rfl rfl ?_
  refine J_aload_n (pc' := 79) ok (dOf dX1_include 49 rfl) rfl rfl rfl ?_
  refine J_getR (ci := 6) (kf := 5) (C := RX6) (T := TX6) (N := 9) (pc' := 82) ok (dOf dX1_include 50 rfl) rfl (by decide) rfl (by decide) win_6 wfl_X1_53 (fun a15 => ?_)
  refine J_iconst (v := 3) (pc' := 83) ok (dOf dX1_include 51 rfl) rfl (by decide) ?_
  refine J_iald (pc' := 84) ok (dOf dX1_include 52 rfl) rfl (fun x16 => ?_)
  refine J_icmp_gt (tgt := 274) (pc' := 87) ok (dOf dX1_include 53 rfl) rfl (by decide) ?_ ?_
  · exact J_fin (kx274 (s.1, s.2))
  · refine J_iconst (v := 0) (pc' := 88) ok (dOf dX1_include 54 rfl) rfl (by decide) ?_
    refine J_istore (ls' := [some (.ref v0), some (.ref v1), some (.ref v2), some (.int v3), some (.int v4), some (.int v5), some (.int v6), some (.int v7), some (.int v8), some (.int v9), some (.int v10), some (.int s.1), some (.int 0), none, none, none, none]) (pc' := 90) ok (dOf dX1_include 55 rfl) rfl (Nat.le_of_ble_eq_true rfl) rfl rfl ?_
    refine J_iter (lf := fun z90 => [some (.ref v0), some (.ref v1), some (.ref v2), some (.int v3), some (.int v4), some (.int v5), some (.int v6), some (.int v7), some (.int v8), some (.int v9), some (.int v10), some (.int s.1), some (.int z90.1), none, none, none, none]) (sf := fun _ => []) (hf := fun z90 => z90.2) (px := (fun (q90 : Int32 × AHeap) => 268)) (lx := (fun (q90 : Int32 × AHeap) => [some (.ref v0), some (.ref v1), some (.ref v2), some (.int v3), some (.int v4), some (.int v5), some (.int v6), some (.int v7), some (.int v8), some (.int v9), some (.int v10), some (.int s.1), some (.int q90.1), none, none, none, none])) (sx := (fun (q90 : Int32 × AHeap) => [])) (hx := (fun (q90 : Int32 × AHeap) => q90.2)) (fun Y2 z90 m1 m2 => Bnds_include_b90_J ok v0 v1 v2 v3 v4 v5 v6 v7 v8 v9 v10 s.1 m1 m2 z90) (fun q90 => ?_) Lmax _
    exact Bnds_include_j268_J ok v0 v1 v2 v3 v4 v5 v6 v7 v8 v9 v10 s.1 q90.1 q90.2 k1 kx274
def Bnds_include_j274 (v0 : Nat) (v1 : Nat) (v2 : Nat) (v3 : Int32) (v4 : Int32) (v5 : Int32) (v6 : Int32) (v7 : Int32) (v8 : Int32) (v9 : Int32) (v10 : Int32) (v11 : Int32) (h : AHeap) : Option (Unit × AHeap) :=
  some ((), h)
theorem Bnds_include_j274_J {E : JE} {l : Launch} {G : GX} {h' : AHeap} (ok : JOK E l G kBnds_include 0 0 none h') (v0 : Nat) (v1 : Nat) (v2 : Nat) (v3 : Int32) (v4 : Int32) (v5 : Int32) (v6 : Int32) (v7 : Int32) (v8 : Int32) (v9 : Int32) (v10 : Int32) (v11 : Int32) (h : AHeap) : J E kBnds_include (Bnds_include_j274 v0 v1 v2 v3 v4 v5 v6 v7 v8 v9 v10 v11 h) (fun z => z = ((), h')) 274 [some (.ref v0), some (.ref v1), some (.ref v2), some (.int v3), some (.int v4), some (.int v5), some (.int v6), some (.int v7), some (.int v8), some (.int v9), some (.int v10), some (.int v11), none, none, none, none, none] [] h 0 0 := by
  unfold Bnds_include_j274
  exact J_vreturn ok (dOf dX1_include 156 rfl) rfl (Eq.refl 0) (Nat.le_refl 0)
def Bnds_include_j59 (v0 : Nat) (v1 : Nat) (v2 : Nat) (v3 : Int32) (v4 : Int32) (v5 : Int32) (v6 : Int32) (v7 : Int32) (v8 : Int32) (t0 : Int32) (h : AHeap) : Option (Unit × AHeap) :=
  (gfR h v2 2 2).bind fun a13 => (ald 0 h a13 v3).bind fun x14 => (iter (Bnds_include_b76 v0 v1 v2 v3 v4 v5 v6 v7 v8 t0 (x14 * 256)) Lmax (0, h)).bind (fun (q76 : Int32 × AHeap) => Bnds_include_j274 v0 v1 v2 v3 v4 v5 v6 v7 v8 t0 (x14 * 256) q76.1 q76.2)
theorem Bnds_include_j59_J {E : JE} {l : Launch} {G : GX} {h' : AHeap} (ok : JOK E l G kBnds_include 0 0 none h') (v0 : Nat) (v1 : Nat) (v2 : Nat) (v3 : Int32) (v4 : Int32) (v5 : Int32) (v6 : Int32) (v7 : Int32) (v8 : Int32) (t0 : Int32) (h : AHeap) : J E kBnds_include (Bnds_include_j59 v0 v1 v2 v3 v4 v5 v6 v7 v8 t0 h) (fun z => z = ((), h')) 59 [some (.ref v0), some (.ref v1), some (.ref v2), some (.int v3), some (.int v4), some (.int v5), some (.int v6), some (.int v7), some (.int v8), none, none, none, none, none, none, none, none] [.int t0] h 0 0 := by
  unfold Bnds_include_j59
  refine J_istore (ls' := [some (.ref v0), some (.ref v1), some (.ref v2), some (.int v3), some (.int v4), some (.int v5), some (.int v6), some (.int v7), some (.int v8), some (.int t0), none, none, none, none, none, none, none]) (pc' := 61) ok (dOf dX1_include 38 rfl) rfl (Nat.le_of_ble_eq_true rfl) rfl rfl ?_
  refine J_aload_n (pc' := 62) ok (dOf dX1_include 39 rfl) rfl rfl rfl ?_
  refine J_getR (ci := 2) (kf := 2) (C := RX2) (T := TX2) (N := 7) (pc' := 65) ok (dOf dX1_include 40 rfl) rfl (by decide) rfl (by decide) win_2 wfl_X1_50 (fun a13 => ?_)
  refine J_iload_n (pc' := 66) ok (dOf dX1_include 41 rfl) rfl rfl rfl ?_
  refine J_iald (pc' := 67) ok (dOf dX1_include 42 rfl) rfl (fun x14 => ?_)
  refine J_sipush (v := 256) (pc' := 70) ok (dOf dX1_include 43 rfl) rfl (by decide) ?_
  refine J_imul (pc' := 71) ok (dOf dX1_include 44 rfl) rfl ?_
  refine J_istore (ls' := [some (.ref v0), some (.ref v1), some (.ref v2), some (.int v3), some (.int v4), some (.int v5), some (.int v6), some (.int v7), some (.int v8), some (.int t0), some (.int (x14 * 256)), none, none, none, none, none, none]) (pc' := 73) ok (dOf dX1_include 45 rfl) rfl (Nat.le_of_ble_eq_true rfl) rfl rfl ?_
  refine J_iconst (v := 0) (pc' := 74) ok (dOf dX1_include 46 rfl) rfl (by decide) ?_
  refine J_istore (ls' := [some (.ref v0), some (.ref v1), some (.ref v2), some (.int v3), some (.int v4), some (.int v5), some (.int v6), some (.int v7), some (.int v8), some (.int t0), some (.int (x14 * 256)), some (.int 0), none, none, none, none, none]) (pc' := 76) ok (dOf dX1_include 47 rfl) rfl (Nat.le_of_ble_eq_true rfl) rfl rfl ?_
  refine J_iter (lf := fun z76 => [some (.ref v0), some (.ref v1), some (.ref v2), some (.int v3), some (.int v4), some (.int v5), some (.int v6), some (.int v7), some (.int v8), some (.int t0), some (.int (x14 * 256)), some (.int z76.1), none, none, none, none, none]) (sf := fun _ => []) (hf := fun z76 => z76.2) (px := (fun (q76 : Int32 × AHeap) => 274)) (lx := (fun (q76 : Int32 × AHeap) => [some (.ref v0), some (.ref v1), some (.ref v2), some (.int v3), some (.int v4), some (.int v5), some (.int v6), some (.int v7), some (.int v8), some (.int t0), some (.int (x14 * 256)), some (.int q76.1), none, none, none, none, none])) (sx := (fun (q76 : Int32 × AHeap) => [])) (hx := (fun (q76 : Int32 × AHeap) => q76.2)) (fun Y2 z76 m1 m2 => Bnds_include_b76_J ok v0 v1 v2 v3 v4 v5 v6 v7 v8 t0 (x14 * 256) m1 m2 z76) (fun q76 => ?_) Lmax _
  exact Bnds_include_j274_J ok v0 v1 v2 v3 v4 v5 v6 v7 v8 t0 (x14 * 256) q76.1 q76.2
def Bnds_include (v0 : Nat) (v1 : Nat) (v2 : Nat) (v3 : Int32) (h : AHeap) : Option (Unit × AHeap) :=
  (chk h v2 2).bind fun _ => bnd2 (Cuts_baseOf v2 v1 v3 h) fun x2 h1 => (chk h1 v2 2).bind fun _ => bnd2 (Cuts_slopeOf v2 v1 v3 0 h1) fun x4 h3 => (chk h3 v2 2).bind fun _ => bnd2 (Cuts_slopeOf v2 v1 v3 1 h3) fun x6 h5 => (chk h5 v2 2).bind fun _ => bnd2 (Cuts_slopeOf v2 v1 v3 2 h5) fun x8 h7 => (chk h7 v2 2).bind fun _ => bnd2 (Cuts_slopeOf v2 v1 v3 3 h7) fun x10 h9 => (gfR h9 v2 2 3).bind fun a11 => (ald 0 h9 a11 v3).bind fun x12 => (if ¬ x12 = 1 then Bnds_include_j59 v0 v1 v2 v3 x2 x4 x6 x8 x10 0 h9 else Bnds_include_j59 v0 v1 v2 v3 x2 x4 x6 x8 x10 1 h9)
theorem t_Bnds_include {l : Launch} {G : GX} {v0 : Nat} {v1 : Nat} {v2 : Nat} {v3 : Int32} {h : AHeap} {h1 : AHeap} (hf : Bnds_include v0 v1 v2 v3 h = some ((), h1)) : CT l G kBnds_include 0 0 [.ref v0, .ref v1, .ref v2, .int v3] h none h1 := by
  refine CT_of (ls := [some (.ref v0), some (.ref v1), some (.ref v2), some (.int v3), none, none, none, none, none, none, none, none, none, none, none, none, none]) (Z := fun z => z = ((), h1)) (by decide +kernel) (Nat.le_of_ble_eq_true rfl) hf rfl ⟨rfl, rfl, rfl, rfl, trivial⟩ (fun E ok => ?_)
  unfold Bnds_include
  refine J_aload_n (pc' := 1) ok (dOf dX1_include 0 rfl) rfl rfl rfl ?_
  refine J_aload_n (pc' := 2) ok (dOf dX1_include 1 rfl) rfl rfl rfl ?_
  refine J_iload_n (pc' := 3) ok (dOf dX1_include 2 rfl) rfl rfl rfl ?_
  refine J_callVi (k2 := kCuts_baseOf) (ci := 2) (T := TX2) (N := 7) (as := [.ref v1, .int v3]) (pc' := 6) ok (dOf dX1_include 3 rfl) rfl (cw_Cuts_baseOf (by decide) (by decide)) wml_X1_39 winst_X2_baseOf wsel_X2_baseOf rfl ⟨Nat.le_refl 0, Nat.le_refl 0⟩ (Nat.le_of_ble_eq_true rfl) rfl (fun _ _ hf => t_Cuts_baseOf hf) (fun x2 h1 => ?_)
  refine J_istore (ls' := [some (.ref v0), some (.ref v1), some (.ref v2), some (.int v3), some (.int x2), none, none, none, none, none, none, none, none, none, none, none, none]) (pc' := 8) ok (dOf dX1_include 4 rfl) rfl (Nat.le_of_ble_eq_true rfl) rfl rfl ?_
  refine J_aload_n (pc' := 9) ok (dOf dX1_include 5 rfl) rfl rfl rfl ?_
  refine J_aload_n (pc' := 10) ok (dOf dX1_include 6 rfl) rfl rfl rfl ?_
  refine J_iload_n (pc' := 11) ok (dOf dX1_include 7 rfl) rfl rfl rfl ?_
  refine J_iconst (v := 0) (pc' := 12) ok (dOf dX1_include 8 rfl) rfl (by decide) ?_
  refine J_callVi (k2 := kCuts_slopeOf) (ci := 2) (T := TX2) (N := 7) (as := [.ref v1, .int v3, .int 0]) (pc' := 15) ok (dOf dX1_include 9 rfl) rfl (cw_Cuts_slopeOf (by decide) (by decide)) wml_X1_43 winst_X2_slopeOf wsel_X2_slopeOf rfl ⟨Nat.le_refl 0, Nat.le_refl 0⟩ (Nat.le_of_ble_eq_true rfl) rfl (fun _ _ hf => t_Cuts_slopeOf hf) (fun x4 h3 => ?_)
  refine J_istore (ls' := [some (.ref v0), some (.ref v1), some (.ref v2), some (.int v3), some (.int x2), some (.int x4), none, none, none, none, none, none, none, none, none, none, none]) (pc' := 17) ok (dOf dX1_include 10 rfl) rfl (Nat.le_of_ble_eq_true rfl) rfl rfl ?_
  refine J_aload_n (pc' := 18) ok (dOf dX1_include 11 rfl) rfl rfl rfl ?_
  refine J_aload_n (pc' := 19) ok (dOf dX1_include 12 rfl) rfl rfl rfl ?_
  refine J_iload_n (pc' := 20) ok (dOf dX1_include 13 rfl) rfl rfl rfl ?_
  refine J_iconst (v := 1) (pc' := 21) ok (dOf dX1_include 14 rfl) rfl (by decide) ?_
  refine J_callVi (k2 := kCuts_slopeOf) (ci := 2) (T := TX2) (N := 7) (as := [.ref v1, .int v3, .int 1]) (pc' := 24) ok (dOf dX1_include 15 rfl) rfl (cw_Cuts_slopeOf (by decide) (by decide)) wml_X1_43 winst_X2_slopeOf wsel_X2_slopeOf rfl ⟨Nat.le_refl 0, Nat.le_refl 0⟩ (Nat.le_of_ble_eq_true rfl) rfl (fun _ _ hf => t_Cuts_slopeOf hf) (fun x6 h5 => ?_)
  refine J_istore (ls' := [some (.ref v0), some (.ref v1), some (.ref v2), some (.int v3), some (.int x2), some (.int x4), some (.int x6), none, none, none, none, none, none, none, none, none, none]) (pc' := 26) ok (dOf dX1_include 16 rfl) rfl (Nat.le_of_ble_eq_true rfl) rfl rfl ?_
  refine J_aload_n (pc' := 27) ok (dOf dX1_include 17 rfl) rfl rfl rfl ?_
  refine J_aload_n (pc' := 28) ok (dOf dX1_include 18 rfl) rfl rfl rfl ?_
  refine J_iload_n (pc' := 29) ok (dOf dX1_include 19 rfl) rfl rfl rfl ?_
  refine J_iconst (v := 2) (pc' := 30) ok (dOf dX1_include 20 rfl) rfl (by decide) ?_
  refine J_callVi (k2 := kCuts_slopeOf) (ci := 2) (T := TX2) (N := 7) (as := [.ref v1, .int v3, .int 2]) (pc' := 33) ok (dOf dX1_include 21 rfl) rfl (cw_Cuts_slopeOf (by decide) (by decide)) wml_X1_43 winst_X2_slopeOf wsel_X2_slopeOf rfl ⟨Nat.le_refl 0, Nat.le_refl 0⟩ (Nat.le_of_ble_eq_true rfl) rfl (fun _ _ hf => t_Cuts_slopeOf hf) (fun x8 h7 => ?_)
  refine J_istore (ls' := [some (.ref v0), some (.ref v1), some (.ref v2), some (.int v3), some (.int x2), some (.int x4), some (.int x6), some (.int x8), none, none, none, none, none, none, none, none, none]) (pc' := 35) ok (dOf dX1_include 22 rfl) rfl (Nat.le_of_ble_eq_true rfl) rfl rfl ?_
  refine J_aload_n (pc' := 36) ok (dOf dX1_include 23 rfl) rfl rfl rfl ?_
  refine J_aload_n (pc' := 37) ok (dOf dX1_include 24 rfl) rfl rfl rfl ?_
  refine J_iload_n (pc' := 38) ok (dOf dX1_include 25 rfl) rfl rfl rfl ?_
  refine J_iconst (v := 3) (pc' := 39) ok (dOf dX1_include 26 rfl) rfl (by decide) ?_
  refine J_callVi (k2 := kCuts_slopeOf) (ci := 2) (T := TX2) (N := 7) (as := [.ref v1, .int v3, .int 3]) (pc' := 42) ok (dOf dX1_include 27 rfl) rfl (cw_Cuts_slopeOf (by decide) (by decide)) wml_X1_43 winst_X2_slopeOf wsel_X2_slopeOf rfl ⟨Nat.le_refl 0, Nat.le_refl 0⟩ (Nat.le_of_ble_eq_true rfl) rfl (fun _ _ hf => t_Cuts_slopeOf hf) (fun x10 h9 => ?_)
  refine J_istore (ls' := [some (.ref v0), some (.ref v1), some (.ref v2), some (.int v3), some (.int x2), some (.int x4), some (.int x6), some (.int x8), some (.int x10), none, none, none, none, none, none, none, none]) (pc' := 44) ok (dOf dX1_include 28 rfl) rfl (Nat.le_of_ble_eq_true rfl) rfl rfl ?_
  refine J_aload_n (pc' := 45) ok (dOf dX1_include 29 rfl) rfl rfl rfl ?_
  refine J_getR (ci := 2) (kf := 3) (C := RX2) (T := TX2) (N := 7) (pc' := 48) ok (dOf dX1_include 30 rfl) rfl (by decide) rfl (by decide) win_2 wfl_X1_47 (fun a11 => ?_)
  refine J_iload_n (pc' := 49) ok (dOf dX1_include 31 rfl) rfl rfl rfl ?_
  refine J_iald (pc' := 50) ok (dOf dX1_include 32 rfl) rfl (fun x12 => ?_)
  refine J_iconst (v := 1) (pc' := 51) ok (dOf dX1_include 33 rfl) rfl (by decide) ?_
  refine J_icmp_ne (tgt := 58) (pc' := 54) ok (dOf dX1_include 34 rfl) rfl (by decide) ?_ ?_
  · refine J_iconst (v := 0) (pc' := 59) ok (dOf dX1_include 37 rfl) rfl (by decide) ?_
    exact Bnds_include_j59_J ok v0 v1 v2 v3 x2 x4 x6 x8 x10 0 h9
  · refine J_iconst (v := 1) (pc' := 55) ok (dOf dX1_include 35 rfl) rfl (by decide) ?_
    refine J_goto (tgt := 59) ok (dOf dX1_include 36 rfl) (by decide) ?_
    exact Bnds_include_j59_J ok v0 v1 v2 v3 x2 x4 x6 x8 x10 1 h9
-- X1_freshen
abbrev kBnds_freshen : Cd := (yX1_freshen, cX1_freshen, 4, none, 2, 60)
theorem dX1_freshen : dcheck cX1_freshen [(0, .aload_n 0, 1), (1, .getfield 9, 3), (4, .ifCond .ne 4, 3), (7, .return_, 1), (8, .aload_n 0, 1), (9, .getfield 15, 3), (12, .iconst 0, 1), (13, .invokestatic 23, 3), (16, .iconst 0, 1), (17, .istore_n 3, 1), (18, .iload_n 3, 1), (19, .sipush 256, 3), (22, .if_icmp .ge 16, 3), (25, .aload_n 0, 1), (26, .getfield 19, 3), (29, .iload_n 3, 1), (30, .iconst 0, 1), (31, .bastore, 1), (32, .iinc 3 1, 3), (35, .goto (-17), 3), (38, .iconst 0, 1), (39, .istore_n 3, 1), (40, .iload_n 3, 1), (41, .aload_n 2, 1), (42, .getfield 29, 3), (45, .if_icmp .ge 16, 3), (48, .aload_n 0, 1), (49, .aload_n 1, 1), (50, .aload_n 2, 1), (51, .iload_n 3, 1), (52, .invokevirtual 35, 3), (55, .iinc 3 1, 3), (58, .goto (-18), 3), (61, .aload_n 0, 1), (62, .iconst 0, 1), (63, .putfield 9, 3), (66, .return_, 1)] = true := by decide +kernel
theorem cw_Bnds_freshen {k : Cd} (h1 : kBnds_freshen.2.2.2.2.1 + 1 ≤ k.2.2.2.2.1) (h2 : 8 + (kBnds_freshen.2.2.1 + 11) + kBnds_freshen.2.2.2.2.2 ≤ k.2.2.2.2.2) : Cw k kBnds_freshen 2 := ⟨wcode_X1_freshen, wini_SplitProgram_Bounds, ⟨by decide, by decide, by decide +kernel⟩, h1, h2⟩
def Bnds_freshen_b18 (v0 : Nat) (v1 : Nat) (v2 : Nat) (s : Int32 × AHeap) : Option ((Int32 × AHeap) ⊕ ((Int32 × AHeap))) :=
  (if 256 ≤ s.1 then some (Sum.inr (s.1, s.2)) else (gfR s.2 v0 1 2).bind fun a4 => (ast 1 s.2 a4 s.1 0).bind fun h5 => some (Sum.inl (s.1 + 1, h5)))
theorem Bnds_freshen_b18_J {E : JE} {l : Launch} {G : GX} {r : Option Value} {h' : AHeap} (ok : JOK E l G kBnds_freshen 0 0 r h') (v0 : Nat) (v1 : Nat) (v2 : Nat) {Y : (Int32 × AHeap) ⊕ ((Int32 × AHeap)) → Prop} (k1 : ∀ s' : Int32 × AHeap, Y (.inl s') → JW E kBnds_freshen 18 [some (.ref v0), some (.ref v1), some (.ref v2), some (.int s'.1)] [] s'.2 0 0) (kx38 : ∀ q : Int32 × AHeap, Y (.inr q) → JW E kBnds_freshen 38 [some (.ref v0), some (.ref v1), some (.ref v2), some (.int q.1)] [] q.2 0 0) (s : Int32 × AHeap) : J E kBnds_freshen (Bnds_freshen_b18 v0 v1 v2 s) Y 18 [some (.ref v0), some (.ref v1), some (.ref v2), some (.int s.1)] [] s.2 0 0 := by
  unfold Bnds_freshen_b18
  refine J_iload_n (pc' := 19) ok (dOf dX1_freshen 10 rfl) rfl rfl rfl ?_
  refine J_sipush (v := 256) (pc' := 22) ok (dOf dX1_freshen 11 rfl) rfl (by decide) ?_
  refine J_icmp_ge (tgt := 38) (pc' := 25) ok (dOf dX1_freshen 12 rfl) rfl (by decide) ?_ ?_
  · exact J_fin (kx38 (s.1, s.2))
  · refine J_aload_n (pc' := 26) ok (dOf dX1_freshen 13 rfl) rfl rfl rfl ?_
    refine J_getR (ci := 1) (kf := 2) (C := RX1) (T := TX1) (N := 3) (pc' := 29) ok (dOf dX1_freshen 14 rfl) rfl (by decide) rfl (by decide) win_1 wfl_X1_19 (fun a4 => ?_)
    refine J_iload_n (pc' := 30) ok (dOf dX1_freshen 15 rfl) rfl rfl rfl ?_
    refine J_iconst (v := 0) (pc' := 31) ok (dOf dX1_freshen 16 rfl) rfl (by decide) ?_
    refine J_zast (pc' := 32) ok (dOf dX1_freshen 17 rfl) rfl (fun h5 _ => ?_)
    refine J_iinc (v := s.1 + 1) (ls' := [some (.ref v0), some (.ref v1), some (.ref v2), some (.int (s.1 + 1))]) (pc' := 35) ok (dOf dX1_freshen 18 rfl) rfl rfl (by rfl) (Nat.le_of_ble_eq_true rfl) rfl rfl ?_
    refine J_goto (tgt := 18) ok (dOf dX1_freshen 19 rfl) (by decide) ?_
    exact J_fin (k1 (s.1 + 1, h5))
def Bnds_freshen_b40 (v0 : Nat) (v1 : Nat) (v2 : Nat) (s : Int32 × AHeap) : Option ((Int32 × AHeap) ⊕ ((Int32 × AHeap))) :=
  (gfI s.2 v2 2 1).bind fun x6 => (if x6 ≤ s.1 then some (Sum.inr (s.1, s.2)) else (chk s.2 v0 1).bind fun _ => bnd2 (Bnds_include v0 v1 v2 s.1 s.2) fun _ h7 => some (Sum.inl (s.1 + 1, h7)))
theorem Bnds_freshen_b40_J {E : JE} {l : Launch} {G : GX} {r : Option Value} {h' : AHeap} (ok : JOK E l G kBnds_freshen 0 0 r h') (v0 : Nat) (v1 : Nat) (v2 : Nat) {Y : (Int32 × AHeap) ⊕ ((Int32 × AHeap)) → Prop} (k1 : ∀ s' : Int32 × AHeap, Y (.inl s') → JW E kBnds_freshen 40 [some (.ref v0), some (.ref v1), some (.ref v2), some (.int s'.1)] [] s'.2 0 0) (kx61 : ∀ q : Int32 × AHeap, Y (.inr q) → JW E kBnds_freshen 61 [some (.ref v0), some (.ref v1), some (.ref v2), some (.int q.1)] [] q.2 0 0) (s : Int32 × AHeap) : J E kBnds_freshen (Bnds_freshen_b40 v0 v1 v2 s) Y 40 [some (.ref v0), some (.ref v1), some (.ref v2), some (.int s.1)] [] s.2 0 0 := by
  unfold Bnds_freshen_b40
  refine J_iload_n (pc' := 41) ok (dOf dX1_freshen 22 rfl) rfl rfl rfl ?_
  refine J_aload_n (pc' := 42) ok (dOf dX1_freshen 23 rfl) rfl rfl rfl ?_
  refine J_getI (ci := 2) (kf := 1) (C := RX2) (T := TX2) (N := 7) (pc' := 45) ok (dOf dX1_freshen 24 rfl) rfl (by decide) rfl (by decide) win_2 wfl_X1_29 (fun x6 => ?_)
  refine J_icmp_ge (tgt := 61) (pc' := 48) ok (dOf dX1_freshen 25 rfl) rfl (by decide) ?_ ?_
  · exact J_fin (kx61 (s.1, s.2))
  · refine J_aload_n (pc' := 49) ok (dOf dX1_freshen 26 rfl) rfl rfl rfl ?_
    refine J_aload_n (pc' := 50) ok (dOf dX1_freshen 27 rfl) rfl rfl rfl ?_
    refine J_aload_n (pc' := 51) ok (dOf dX1_freshen 28 rfl) rfl rfl rfl ?_
    refine J_iload_n (pc' := 52) ok (dOf dX1_freshen 29 rfl) rfl rfl rfl ?_
    refine J_callVv (k2 := kBnds_include) (ci := 1) (T := TX1) (N := 3) (as := [.ref v1, .ref v2, .int s.1]) (pc' := 55) ok (dOf dX1_freshen 30 rfl) rfl (cw_Bnds_include (by decide) (by decide)) wml_X1_35 winst_X1_include wsel_X1_include rfl ⟨Nat.le_refl 0, Nat.le_refl 0⟩ (Nat.le_of_ble_eq_true rfl) rfl (fun _ _ hf => t_Bnds_include hf) (fun _ h7 => ?_)
    refine J_iinc (v := s.1 + 1) (ls' := [some (.ref v0), some (.ref v1), some (.ref v2), some (.int (s.1 + 1))]) (pc' := 58) ok (dOf dX1_freshen 31 rfl) rfl rfl (by rfl) (Nat.le_of_ble_eq_true rfl) rfl rfl ?_
    refine J_goto (tgt := 40) ok (dOf dX1_freshen 32 rfl) (by decide) ?_
    exact J_fin (k1 (s.1 + 1, h7))
def Bnds_freshen_j61 (v0 : Nat) (v1 : Nat) (v2 : Nat) (v3 : Int32) (h : AHeap) : Option (Unit × AHeap) :=
  (bz 0).bind fun x9 => (pfV h v0 1 0 (.int x9)).bind fun h8 => some ((), h8)
theorem Bnds_freshen_j61_J {E : JE} {l : Launch} {G : GX} {h' : AHeap} (ok : JOK E l G kBnds_freshen 0 0 none h') (v0 : Nat) (v1 : Nat) (v2 : Nat) (v3 : Int32) (h : AHeap) : J E kBnds_freshen (Bnds_freshen_j61 v0 v1 v2 v3 h) (fun z => z = ((), h')) 61 [some (.ref v0), some (.ref v1), some (.ref v2), some (.int v3)] [] h 0 0 := by
  unfold Bnds_freshen_j61
  refine J_aload_n (pc' := 62) ok (dOf dX1_freshen 33 rfl) rfl rfl rfl ?_
  refine J_iconst (v := 0) (pc' := 63) ok (dOf dX1_freshen 34 rfl) rfl (by decide) ?_
  refine J_putZ (ci := 1) (kf := 0) (C := RX1) (T := TX1) (N := 3) (pc' := 66) ok tyX1 (dOf dX1_freshen 35 rfl) rfl rfl (by decide) win_1 tyX1_ok nmX1 rfl rfl wfl_X1_9 (fun h8 _ => ?_)
  exact J_vreturn ok (dOf dX1_freshen 36 rfl) rfl (Eq.refl 0) (Nat.le_refl 0)
def Bnds_freshen_j38 (v0 : Nat) (v1 : Nat) (v2 : Nat) (v3 : Int32) (h : AHeap) : Option (Unit × AHeap) :=
  (iter (Bnds_freshen_b40 v0 v1 v2) Lmax (0, h)).bind (fun (q40 : Int32 × AHeap) => Bnds_freshen_j61 v0 v1 v2 q40.1 q40.2)
theorem Bnds_freshen_j38_J {E : JE} {l : Launch} {G : GX} {h' : AHeap} (ok : JOK E l G kBnds_freshen 0 0 none h') (v0 : Nat) (v1 : Nat) (v2 : Nat) (v3 : Int32) (h : AHeap) : J E kBnds_freshen (Bnds_freshen_j38 v0 v1 v2 v3 h) (fun z => z = ((), h')) 38 [some (.ref v0), some (.ref v1), some (.ref v2), some (.int v3)] [] h 0 0 := by
  unfold Bnds_freshen_j38
  refine J_iconst (v := 0) (pc' := 39) ok (dOf dX1_freshen 20 rfl) rfl (by decide) ?_
  refine J_istore_n (ls' := [some (.ref v0), some (.ref v1), some (.ref v2), some (.int 0)]) (pc' := 40) ok (dOf dX1_freshen 21 rfl) rfl rfl (Nat.le_of_ble_eq_true rfl) rfl rfl ?_
  refine J_iter (lf := fun z40 => [some (.ref v0), some (.ref v1), some (.ref v2), some (.int z40.1)]) (sf := fun _ => []) (hf := fun z40 => z40.2) (px := (fun (q40 : Int32 × AHeap) => 61)) (lx := (fun (q40 : Int32 × AHeap) => [some (.ref v0), some (.ref v1), some (.ref v2), some (.int q40.1)])) (sx := (fun (q40 : Int32 × AHeap) => [])) (hx := (fun (q40 : Int32 × AHeap) => q40.2)) (fun Y2 z40 m1 m2 => Bnds_freshen_b40_J ok v0 v1 v2 m1 m2 z40) (fun q40 => ?_) Lmax _
  exact Bnds_freshen_j61_J ok v0 v1 v2 q40.1 q40.2
def Bnds_freshen (v0 : Nat) (v1 : Nat) (v2 : Nat) (h : AHeap) : Option (Unit × AHeap) :=
  (gfI h v0 1 0).bind fun x1 => (if ¬ x1 = 0 then (gfR h v0 1 1).bind fun a2 => bnd2 (J7_fill a2 0 h) fun _ h3 => (iter (Bnds_freshen_b18 v0 v1 v2) Lmax (0, h3)).bind (fun (q18 : Int32 × AHeap) => Bnds_freshen_j38 v0 v1 v2 q18.1 q18.2) else some ((), h))
theorem t_Bnds_freshen {l : Launch} {G : GX} {v0 : Nat} {v1 : Nat} {v2 : Nat} {h : AHeap} {h1 : AHeap} (hf : Bnds_freshen v0 v1 v2 h = some ((), h1)) : CT l G kBnds_freshen 0 0 [.ref v0, .ref v1, .ref v2] h none h1 := by
  refine CT_of (ls := [some (.ref v0), some (.ref v1), some (.ref v2), none]) (Z := fun z => z = ((), h1)) (by decide +kernel) (Nat.le_of_ble_eq_true rfl) hf rfl ⟨rfl, rfl, rfl, trivial⟩ (fun E ok => ?_)
  unfold Bnds_freshen
  refine J_aload_n (pc' := 1) ok (dOf dX1_freshen 0 rfl) rfl rfl rfl ?_
  refine J_getI (ci := 1) (kf := 0) (C := RX1) (T := TX1) (N := 3) (pc' := 4) ok (dOf dX1_freshen 1 rfl) rfl (by decide) rfl (by decide) win_1 wfl_X1_9 (fun x1 => ?_)
  refine J_if_ne (tgt := 8) (pc' := 7) ok (dOf dX1_freshen 2 rfl) rfl (by decide) ?_ ?_
  · refine J_aload_n (pc' := 9) ok (dOf dX1_freshen 4 rfl) rfl rfl rfl ?_
    refine J_getR (ci := 1) (kf := 1) (C := RX1) (T := TX1) (N := 3) (pc' := 12) ok (dOf dX1_freshen 5 rfl) rfl (by decide) rfl (by decide) win_1 wfl_X1_15 (fun a2 => ?_)
    refine J_iconst (v := 0) (pc' := 13) ok (dOf dX1_freshen 6 rfl) rfl (by decide) ?_
    refine J_callSv (k2 := kJ7_fill) (as := [.ref a2, .int 0]) (pc' := 16) ok (dOf dX1_freshen 7 rfl) rfl (cw_J7_fill (by decide) (by decide)) wml_X1_23 wstat_J7_fill_53178 ⟨Nat.le_refl 0, Nat.le_refl 0⟩ (Nat.le_of_ble_eq_true rfl) rfl (fun _ _ hf => t_J7_fill hf) (fun _ h3 => ?_)
    refine J_iconst (v := 0) (pc' := 17) ok (dOf dX1_freshen 8 rfl) rfl (by decide) ?_
    refine J_istore_n (ls' := [some (.ref v0), some (.ref v1), some (.ref v2), some (.int 0)]) (pc' := 18) ok (dOf dX1_freshen 9 rfl) rfl rfl (Nat.le_of_ble_eq_true rfl) rfl rfl ?_
    refine J_iter (lf := fun z18 => [some (.ref v0), some (.ref v1), some (.ref v2), some (.int z18.1)]) (sf := fun _ => []) (hf := fun z18 => z18.2) (px := (fun (q18 : Int32 × AHeap) => 38)) (lx := (fun (q18 : Int32 × AHeap) => [some (.ref v0), some (.ref v1), some (.ref v2), some (.int q18.1)])) (sx := (fun (q18 : Int32 × AHeap) => [])) (hx := (fun (q18 : Int32 × AHeap) => q18.2)) (fun Y2 z18 m1 m2 => Bnds_freshen_b18_J ok v0 v1 v2 m1 m2 z18) (fun q18 => ?_) Lmax _
    exact Bnds_freshen_j38_J ok v0 v1 v2 q18.1 q18.2
  · exact J_vreturn ok (dOf dX1_freshen 3 rfl) rfl (Eq.refl 0) (Nat.le_refl 0)
-- X10_unitsIn
abbrev kSp_unitsIn : Cd := (yX10_unitsIn, cX10_unitsIn, 2, (some .int), 0, 0)
theorem dX10_unitsIn : dcheck cX10_unitsIn [(0, .iload_n 0, 1), (1, .iconst 2, 1), (2, .iload_n 1, 1), (3, .imul, 1), (4, .ishr, 1), (5, .iconst 3, 1), (6, .iand, 1), (7, .ireturn, 1)] = true := by decide +kernel
theorem cw_Sp_unitsIn {k : Cd} (h1 : kSp_unitsIn.2.2.2.2.1 + 1 ≤ k.2.2.2.2.1) (h2 : 8 + (kSp_unitsIn.2.2.1 + 11) + kSp_unitsIn.2.2.2.2.2 ≤ k.2.2.2.2.2) : Cw k kSp_unitsIn 2 := ⟨wcode_X10_unitsIn, wini_SplitProgram, ⟨by decide, by decide, by decide +kernel⟩, h1, h2⟩
def Sp_unitsIn (v0 : Int32) (v1 : Int32) (h : AHeap) : Option (Int32 × AHeap) :=
  some ((v0 >>> ((2 * v1) &&& 31)) &&& 3, h)
theorem t_Sp_unitsIn {l : Launch} {G : GX} {v0 : Int32} {v1 : Int32} {h : AHeap} {v : Int32} {h1 : AHeap} (hf : Sp_unitsIn v0 v1 h = some (v, h1)) : CT l G kSp_unitsIn 0 0 [.int v0, .int v1] h (some (.int v)) h1 := by
  refine CT_of (ls := [some (.int v0), some (.int v1)]) (Z := fun z => z = (v, h1)) (by decide +kernel) (Nat.le_of_ble_eq_true rfl) hf rfl ⟨rfl, rfl, trivial⟩ (fun E ok => ?_)
  unfold Sp_unitsIn
  refine J_iload_n (pc' := 1) ok (dOf dX10_unitsIn 0 rfl) rfl rfl rfl ?_
  refine J_iconst (v := 2) (pc' := 2) ok (dOf dX10_unitsIn 1 rfl) rfl (by decide) ?_
  refine J_iload_n (pc' := 3) ok (dOf dX10_unitsIn 2 rfl) rfl rfl rfl ?_
  refine J_imul (pc' := 4) ok (dOf dX10_unitsIn 3 rfl) rfl ?_
  refine J_ishr (pc' := 5) ok (dOf dX10_unitsIn 4 rfl) rfl ?_
  refine J_iconst (v := 3) (pc' := 6) ok (dOf dX10_unitsIn 5 rfl) rfl (by decide) ?_
  refine J_iand (pc' := 7) ok (dOf dX10_unitsIn 6 rfl) rfl ?_
  exact J_ireturn ok (dOf dX10_unitsIn 7 rfl) rfl (Eq.refl 0) (Nat.le_refl 0)
-- X6_isPlan
abbrev kProg_isPlan : Cd := (yX6_isPlan, cX6_isPlan, 3, (some .boolean), 1, 21)
theorem dX6_isPlan : dcheck cX6_isPlan [(0, .iload_n 1, 1), (1, .ifCond .lt 10, 3), (4, .iload_n 1, 1), (5, .sipush 256, 3), (8, .if_icmp .lt 5, 3), (11, .iconst 0, 1), (12, .ireturn, 1), (13, .iconst 0, 1), (14, .istore_n 2, 1), (15, .iload_n 2, 1), (16, .iconst 4, 1), (17, .if_icmp .ge 25, 3), (20, .iload_n 1, 1), (21, .iload_n 2, 1), (22, .invokestatic 52, 3), (25, .aload_n 0, 1), (26, .getfield 18, 3), (29, .iload_n 2, 1), (30, .iaload, 1), (31, .if_icmp .le 5, 3), (34, .iconst 0, 1), (35, .ireturn, 1), (36, .iinc 2 1, 3), (39, .goto (-24), 3), (42, .iconst 1, 1), (43, .ireturn, 1)] = true := by decide +kernel
theorem cw_Prog_isPlan {k : Cd} (h1 : kProg_isPlan.2.2.2.2.1 + 1 ≤ k.2.2.2.2.1) (h2 : 8 + (kProg_isPlan.2.2.1 + 11) + kProg_isPlan.2.2.2.2.2 ≤ k.2.2.2.2.2) : Cw k kProg_isPlan 1 := ⟨wcode_X6_isPlan, wini_SplitProgram_Program, ⟨by decide, by decide, by decide +kernel⟩, h1, h2⟩
def Prog_isPlan_j11 (v0 : Nat) (v1 : Int32) (h : AHeap) : Option (Int32 × AHeap) :=
  (bz 0).bind fun z => some (z, h)
theorem Prog_isPlan_j11_J {E : JE} {l : Launch} {G : GX} {v : Int32} {h' : AHeap} (ok : JOK E l G kProg_isPlan 0 0 (some (.int v)) h') (v0 : Nat) (v1 : Int32) (h : AHeap) : J E kProg_isPlan (Prog_isPlan_j11 v0 v1 h) (fun z => z = (v, h')) 11 [some (.ref v0), some (.int v1), none] [] h 0 0 := by
  unfold Prog_isPlan_j11
  refine J_iconst (v := 0) (pc' := 12) ok (dOf dX6_isPlan 5 rfl) rfl (by decide) ?_
  exact J_zreturn ok (dOf dX6_isPlan 6 rfl) rfl (Eq.refl 0) (Nat.le_refl 0)
def Prog_isPlan_b15 (v0 : Nat) (v1 : Int32) (s : Int32 × AHeap) : Option ((Int32 × AHeap) ⊕ ((Int32 × AHeap) ⊕ (Int32 × AHeap))) :=
  (if 4 ≤ s.1 then some (Sum.inr (Sum.inr (s.1, s.2))) else bnd2 (Sp_unitsIn v1 s.1 s.2) fun x2 h1 => (gfR h1 v0 6 5).bind fun a3 => (ald 0 h1 a3 s.1).bind fun x4 => (if x2 ≤ x4 then some (Sum.inl (s.1 + 1, h1)) else some (Sum.inr (Sum.inl (s.1, h1)))))
theorem Prog_isPlan_b15_J {E : JE} {l : Launch} {G : GX} {r : Option Value} {h' : AHeap} (ok : JOK E l G kProg_isPlan 0 0 r h') (v0 : Nat) (v1 : Int32) {Y : (Int32 × AHeap) ⊕ ((Int32 × AHeap) ⊕ (Int32 × AHeap)) → Prop} (k1 : ∀ s' : Int32 × AHeap, Y (.inl s') → JW E kProg_isPlan 15 [some (.ref v0), some (.int v1), some (.int s'.1)] [] s'.2 0 0) (kx34 : ∀ q : Int32 × AHeap, Y (.inr (Sum.inl q)) → JW E kProg_isPlan 34 [some (.ref v0), some (.int v1), some (.int q.1)] [] q.2 0 0) (kx42 : ∀ q : Int32 × AHeap, Y (.inr (Sum.inr q)) → JW E kProg_isPlan 42 [some (.ref v0), some (.int v1), some (.int q.1)] [] q.2 0 0) (s : Int32 × AHeap) : J E kProg_isPlan (Prog_isPlan_b15 v0 v1 s) Y 15 [some (.ref v0), some (.int v1), some (.int s.1)] [] s.2 0 0 := by
  unfold Prog_isPlan_b15
  refine J_iload_n (pc' := 16) ok (dOf dX6_isPlan 9 rfl) rfl rfl rfl ?_
  refine J_iconst (v := 4) (pc' := 17) ok (dOf dX6_isPlan 10 rfl) rfl (by decide) ?_
  refine J_icmp_ge (tgt := 42) (pc' := 20) ok (dOf dX6_isPlan 11 rfl) rfl (by decide) ?_ ?_
  · exact J_fin (kx42 (s.1, s.2))
  · refine J_iload_n (pc' := 21) ok (dOf dX6_isPlan 12 rfl) rfl rfl rfl ?_
    refine J_iload_n (pc' := 22) ok (dOf dX6_isPlan 13 rfl) rfl rfl rfl ?_
    refine J_callSNi (k2 := kSp_unitsIn) (as := [.int v1, .int s.1]) (pc' := 25) ok (dOf dX6_isPlan 14 rfl) rfl (cw_Sp_unitsIn (by decide) (by decide)) wmn_X6_52 wstat_X10_unitsIn ⟨Nat.le_refl 0, Nat.le_refl 0⟩ (Nat.le_of_ble_eq_true rfl) rfl (fun _ _ hf => t_Sp_unitsIn hf) (fun x2 h1 => ?_)
    refine J_aload_n (pc' := 26) ok (dOf dX6_isPlan 15 rfl) rfl rfl rfl ?_
    refine J_getR (ci := 6) (kf := 5) (C := RX6) (T := TX6) (N := 9) (pc' := 29) ok (dOf dX6_isPlan 16 rfl) rfl (by decide) rfl (by decide) win_6 wfl_X6_18 (fun a3 => ?_)
    refine J_iload_n (pc' := 30) ok (dOf dX6_isPlan 17 rfl) rfl rfl rfl ?_
    refine J_iald (pc' := 31) ok (dOf dX6_isPlan 18 rfl) rfl (fun x4 => ?_)
    refine J_icmp_le (tgt := 36) (pc' := 34) ok (dOf dX6_isPlan 19 rfl) rfl (by decide) ?_ ?_
    · refine J_iinc (v := s.1 + 1) (ls' := [some (.ref v0), some (.int v1), some (.int (s.1 + 1))]) (pc' := 39) ok (dOf dX6_isPlan 22 rfl) rfl rfl (by rfl) (Nat.le_of_ble_eq_true rfl) rfl rfl ?_
      refine J_goto (tgt := 15) ok (dOf dX6_isPlan 23 rfl) (by decide) ?_
      exact J_fin (k1 (s.1 + 1, h1))
    · exact J_fin (kx34 (s.1, h1))
def Prog_isPlan_j34 (v0 : Nat) (v1 : Int32) (v2 : Int32) (h : AHeap) : Option (Int32 × AHeap) :=
  (bz 0).bind fun z => some (z, h)
theorem Prog_isPlan_j34_J {E : JE} {l : Launch} {G : GX} {v : Int32} {h' : AHeap} (ok : JOK E l G kProg_isPlan 0 0 (some (.int v)) h') (v0 : Nat) (v1 : Int32) (v2 : Int32) (h : AHeap) : J E kProg_isPlan (Prog_isPlan_j34 v0 v1 v2 h) (fun z => z = (v, h')) 34 [some (.ref v0), some (.int v1), some (.int v2)] [] h 0 0 := by
  unfold Prog_isPlan_j34
  refine J_iconst (v := 0) (pc' := 35) ok (dOf dX6_isPlan 20 rfl) rfl (by decide) ?_
  exact J_zreturn ok (dOf dX6_isPlan 21 rfl) rfl (Eq.refl 0) (Nat.le_refl 0)
def Prog_isPlan_j42 (v0 : Nat) (v1 : Int32) (v2 : Int32) (h : AHeap) : Option (Int32 × AHeap) :=
  (bz 1).bind fun z => some (z, h)
theorem Prog_isPlan_j42_J {E : JE} {l : Launch} {G : GX} {v : Int32} {h' : AHeap} (ok : JOK E l G kProg_isPlan 0 0 (some (.int v)) h') (v0 : Nat) (v1 : Int32) (v2 : Int32) (h : AHeap) : J E kProg_isPlan (Prog_isPlan_j42 v0 v1 v2 h) (fun z => z = (v, h')) 42 [some (.ref v0), some (.int v1), some (.int v2)] [] h 0 0 := by
  unfold Prog_isPlan_j42
  refine J_iconst (v := 1) (pc' := 43) ok (dOf dX6_isPlan 24 rfl) rfl (by decide) ?_
  exact J_zreturn ok (dOf dX6_isPlan 25 rfl) rfl (Eq.refl 0) (Nat.le_refl 0)
def Prog_isPlan (v0 : Nat) (v1 : Int32) (h : AHeap) : Option (Int32 × AHeap) :=
  (if v1 < 0 then Prog_isPlan_j11 v0 v1 h else (if v1 < 256 then (iter (Prog_isPlan_b15 v0 v1) Lmax (0, h)).bind (Sum.elim (fun (q15 : Int32 × AHeap) => Prog_isPlan_j34 v0 v1 q15.1 q15.2) (fun (q15 : Int32 × AHeap) => Prog_isPlan_j42 v0 v1 q15.1 q15.2)) else Prog_isPlan_j11 v0 v1 h))
theorem t_Prog_isPlan {l : Launch} {G : GX} {v0 : Nat} {v1 : Int32} {h : AHeap} {v : Int32} {h1 : AHeap} (hf : Prog_isPlan v0 v1 h = some (v, h1)) : CT l G kProg_isPlan 0 0 [.ref v0, .int v1] h (some (.int v)) h1 := by
  refine CT_of (ls := [some (.ref v0), some (.int v1), none]) (Z := fun z => z = (v, h1)) (by decide +kernel) (Nat.le_of_ble_eq_true rfl) hf rfl ⟨rfl, rfl, trivial⟩ (fun E ok => ?_)
  unfold Prog_isPlan
  refine J_iload_n (pc' := 1) ok (dOf dX6_isPlan 0 rfl) rfl rfl rfl ?_
  refine J_if_lt (tgt := 11) (pc' := 4) ok (dOf dX6_isPlan 1 rfl) rfl (by decide) ?_ ?_
  · exact Prog_isPlan_j11_J ok v0 v1 h
  · refine J_iload_n (pc' := 5) ok (dOf dX6_isPlan 2 rfl) rfl rfl rfl ?_
    refine J_sipush (v := 256) (pc' := 8) ok (dOf dX6_isPlan 3 rfl) rfl (by decide) ?_
    refine J_icmp_lt (tgt := 13) (pc' := 11) ok (dOf dX6_isPlan 4 rfl) rfl (by decide) ?_ ?_
    · refine J_iconst (v := 0) (pc' := 14) ok (dOf dX6_isPlan 7 rfl) rfl (by decide) ?_
      refine J_istore_n (ls' := [some (.ref v0), some (.int v1), some (.int 0)]) (pc' := 15) ok (dOf dX6_isPlan 8 rfl) rfl rfl (Nat.le_of_ble_eq_true rfl) rfl rfl ?_
      refine J_iter (lf := fun z15 => [some (.ref v0), some (.int v1), some (.int z15.1)]) (sf := fun _ => []) (hf := fun z15 => z15.2) (px := (Sum.elim (fun (q15 : Int32 × AHeap) => 34) (fun (q15 : Int32 × AHeap) => 42))) (lx := (Sum.elim (fun (q15 : Int32 × AHeap) => [some (.ref v0), some (.int v1), some (.int q15.1)]) (fun (q15 : Int32 × AHeap) => [some (.ref v0), some (.int v1), some (.int q15.1)]))) (sx := (Sum.elim (fun (q15 : Int32 × AHeap) => []) (fun (q15 : Int32 × AHeap) => []))) (hx := (Sum.elim (fun (q15 : Int32 × AHeap) => q15.2) (fun (q15 : Int32 × AHeap) => q15.2))) (fun Y2 z15 m1 m2 => Prog_isPlan_b15_J ok v0 v1 m1 (fun q hq => m2 (Sum.inl q) hq) (fun q hq => m2 (Sum.inr q) hq) z15) (fun q15 => ?_) Lmax _
      rcases q15 with q15 | q15
      · show J E kProg_isPlan (Prog_isPlan_j34 v0 v1 q15.1 q15.2) _ 34 [some (.ref v0), some (.int v1), some (.int q15.1)] [] q15.2 0 0
        exact Prog_isPlan_j34_J ok v0 v1 q15.1 q15.2
      · show J E kProg_isPlan (Prog_isPlan_j42 v0 v1 q15.1 q15.2) _ 42 [some (.ref v0), some (.int v1), some (.int q15.1)] [] q15.2 0 0
        exact Prog_isPlan_j42_J ok v0 v1 q15.1 q15.2
    · exact Prog_isPlan_j11_J ok v0 v1 h
-- X6_feesOf
abbrev kProg_feesOf : Cd := (yX6_feesOf, cX6_feesOf, 4, (some .int), 1, 21)
theorem dX6_feesOf : dcheck cX6_feesOf [(0, .iconst 0, 1), (1, .istore_n 2, 1), (2, .iconst 0, 1), (3, .istore_n 3, 1), (4, .iload_n 3, 1), (5, .aload_n 0, 1), (6, .getfield 36, 3), (9, .if_icmp .ge 24, 3), (12, .iload_n 2, 1), (13, .iload_n 1, 1), (14, .iload_n 3, 1), (15, .invokestatic 52, 3), (18, .aload_n 0, 1), (19, .getfield 9, 3), (22, .iload_n 3, 1), (23, .iaload, 1), (24, .imul, 1), (25, .iadd, 1), (26, .istore_n 2, 1), (27, .iinc 3 1, 3), (30, .goto (-26), 3), (33, .iload_n 2, 1), (34, .ireturn, 1)] = true := by decide +kernel
theorem cw_Prog_feesOf {k : Cd} (h1 : kProg_feesOf.2.2.2.2.1 + 1 ≤ k.2.2.2.2.1) (h2 : 8 + (kProg_feesOf.2.2.1 + 11) + kProg_feesOf.2.2.2.2.2 ≤ k.2.2.2.2.2) : Cw k kProg_feesOf 1 := ⟨wcode_X6_feesOf, wini_SplitProgram_Program, ⟨by decide, by decide, by decide +kernel⟩, h1, h2⟩
def Prog_feesOf_b4 (v0 : Nat) (v1 : Int32) (s : Int32 × Int32 × AHeap) : Option ((Int32 × Int32 × AHeap) ⊕ ((Int32 × Int32 × AHeap))) :=
  (gfI s.2.2 v0 6 0).bind fun x1 => (if x1 ≤ s.2.1 then some (Sum.inr (s.1, s.2.1, s.2.2)) else bnd2 (Sp_unitsIn v1 s.2.1 s.2.2) fun x3 h2 => (gfR h2 v0 6 3).bind fun a4 => (ald 0 h2 a4 s.2.1).bind fun x5 => some (Sum.inl (s.1 + (x3 * x5), s.2.1 + 1, h2)))
theorem Prog_feesOf_b4_J {E : JE} {l : Launch} {G : GX} {r : Option Value} {h' : AHeap} (ok : JOK E l G kProg_feesOf 0 0 r h') (v0 : Nat) (v1 : Int32) {Y : (Int32 × Int32 × AHeap) ⊕ ((Int32 × Int32 × AHeap)) → Prop} (k1 : ∀ s' : Int32 × Int32 × AHeap, Y (.inl s') → JW E kProg_feesOf 4 [some (.ref v0), some (.int v1), some (.int s'.1), some (.int s'.2.1)] [] s'.2.2 0 0) (kx33 : ∀ q : Int32 × Int32 × AHeap, Y (.inr q) → JW E kProg_feesOf 33 [some (.ref v0), some (.int v1), some (.int q.1), some (.int q.2.1)] [] q.2.2 0 0) (s : Int32 × Int32 × AHeap) : J E kProg_feesOf (Prog_feesOf_b4 v0 v1 s) Y 4 [some (.ref v0), some (.int v1), some (.int s.1), some (.int s.2.1)] [] s.2.2 0 0 := by
  unfold Prog_feesOf_b4
  refine J_iload_n (pc' := 5) ok (dOf dX6_feesOf 4 rfl) rfl rfl rfl ?_
  refine J_aload_n (pc' := 6) ok (dOf dX6_feesOf 5 rfl) rfl rfl rfl ?_
  refine J_getI (ci := 6) (kf := 0) (C := RX6) (T := TX6) (N := 9) (pc' := 9) ok (dOf dX6_feesOf 6 rfl) rfl (by decide) rfl (by decide) win_6 wfl_X6_36 (fun x1 => ?_)
  refine J_icmp_ge (tgt := 33) (pc' := 12) ok (dOf dX6_feesOf 7 rfl) rfl (by decide) ?_ ?_
  · exact J_fin (kx33 (s.1, s.2.1, s.2.2))
  · refine J_iload_n (pc' := 13) ok (dOf dX6_feesOf 8 rfl) rfl rfl rfl ?_
    refine J_iload_n (pc' := 14) ok (dOf dX6_feesOf 9 rfl) rfl rfl rfl ?_
    refine J_iload_n (pc' := 15) ok (dOf dX6_feesOf 10 rfl) rfl rfl rfl ?_
    refine J_callSNi (k2 := kSp_unitsIn) (as := [.int v1, .int s.2.1]) (pc' := 18) ok (dOf dX6_feesOf 11 rfl) rfl (cw_Sp_unitsIn (by decide) (by decide)) wmn_X6_52 wstat_X10_unitsIn ⟨Nat.le_refl 0, Nat.le_refl 0⟩ (Nat.le_of_ble_eq_true rfl) rfl (fun _ _ hf => t_Sp_unitsIn hf) (fun x3 h2 => ?_)
    refine J_aload_n (pc' := 19) ok (dOf dX6_feesOf 12 rfl) rfl rfl rfl ?_
    refine J_getR (ci := 6) (kf := 3) (C := RX6) (T := TX6) (N := 9) (pc' := 22) ok (dOf dX6_feesOf 13 rfl) rfl (by decide) rfl (by decide) win_6 wfl_X6_9 (fun a4 => ?_)
    refine J_iload_n (pc' := 23) ok (dOf dX6_feesOf 14 rfl) rfl rfl rfl ?_
    refine J_iald (pc' := 24) ok (dOf dX6_feesOf 15 rfl) rfl (fun x5 => ?_)
    refine J_imul (pc' := 25) ok (dOf dX6_feesOf 16 rfl) rfl ?_
    refine J_iadd (pc' := 26) ok (dOf dX6_feesOf 17 rfl) rfl ?_
    refine J_istore_n (ls' := [some (.ref v0), some (.int v1), some (.int (s.1 + (x3 * x5))), some (.int s.2.1)]) (pc' := 27) ok (dOf dX6_feesOf 18 rfl) rfl rfl (Nat.le_of_ble_eq_true rfl) rfl rfl ?_
    refine J_iinc (v := s.2.1 + 1) (ls' := [some (.ref v0), some (.int v1), some (.int (s.1 + (x3 * x5))), some (.int (s.2.1 + 1))]) (pc' := 30) ok (dOf dX6_feesOf 19 rfl) rfl rfl (by rfl) (Nat.le_of_ble_eq_true rfl) rfl rfl ?_
    refine J_goto (tgt := 4) ok (dOf dX6_feesOf 20 rfl) (by decide) ?_
    exact J_fin (k1 (s.1 + (x3 * x5), s.2.1 + 1, h2))
def Prog_feesOf_j33 (v0 : Nat) (v1 : Int32) (v2 : Int32) (v3 : Int32) (h : AHeap) : Option (Int32 × AHeap) :=
  some (v2, h)
theorem Prog_feesOf_j33_J {E : JE} {l : Launch} {G : GX} {v : Int32} {h' : AHeap} (ok : JOK E l G kProg_feesOf 0 0 (some (.int v)) h') (v0 : Nat) (v1 : Int32) (v2 : Int32) (v3 : Int32) (h : AHeap) : J E kProg_feesOf (Prog_feesOf_j33 v0 v1 v2 v3 h) (fun z => z = (v, h')) 33 [some (.ref v0), some (.int v1), some (.int v2), some (.int v3)] [] h 0 0 := by
  unfold Prog_feesOf_j33
  refine J_iload_n (pc' := 34) ok (dOf dX6_feesOf 21 rfl) rfl rfl rfl ?_
  exact J_ireturn ok (dOf dX6_feesOf 22 rfl) rfl (Eq.refl 0) (Nat.le_refl 0)
def Prog_feesOf (v0 : Nat) (v1 : Int32) (h : AHeap) : Option (Int32 × AHeap) :=
  (iter (Prog_feesOf_b4 v0 v1) Lmax (0, 0, h)).bind (fun (q4 : Int32 × Int32 × AHeap) => Prog_feesOf_j33 v0 v1 q4.1 q4.2.1 q4.2.2)
theorem t_Prog_feesOf {l : Launch} {G : GX} {v0 : Nat} {v1 : Int32} {h : AHeap} {v : Int32} {h1 : AHeap} (hf : Prog_feesOf v0 v1 h = some (v, h1)) : CT l G kProg_feesOf 0 0 [.ref v0, .int v1] h (some (.int v)) h1 := by
  refine CT_of (ls := [some (.ref v0), some (.int v1), none, none]) (Z := fun z => z = (v, h1)) (by decide +kernel) (Nat.le_of_ble_eq_true rfl) hf rfl ⟨rfl, rfl, trivial⟩ (fun E ok => ?_)
  unfold Prog_feesOf
  refine J_iconst (v := 0) (pc' := 1) ok (dOf dX6_feesOf 0 rfl) rfl (by decide) ?_
  refine J_istore_n (ls' := [some (.ref v0), some (.int v1), some (.int 0), none]) (pc' := 2) ok (dOf dX6_feesOf 1 rfl) rfl rfl (Nat.le_of_ble_eq_true rfl) rfl rfl ?_
  refine J_iconst (v := 0) (pc' := 3) ok (dOf dX6_feesOf 2 rfl) rfl (by decide) ?_
  refine J_istore_n (ls' := [some (.ref v0), some (.int v1), some (.int 0), some (.int 0)]) (pc' := 4) ok (dOf dX6_feesOf 3 rfl) rfl rfl (Nat.le_of_ble_eq_true rfl) rfl rfl ?_
  refine J_iter (lf := fun z4 => [some (.ref v0), some (.int v1), some (.int z4.1), some (.int z4.2.1)]) (sf := fun _ => []) (hf := fun z4 => z4.2.2) (px := (fun (q4 : Int32 × Int32 × AHeap) => 33)) (lx := (fun (q4 : Int32 × Int32 × AHeap) => [some (.ref v0), some (.int v1), some (.int q4.1), some (.int q4.2.1)])) (sx := (fun (q4 : Int32 × Int32 × AHeap) => [])) (hx := (fun (q4 : Int32 × Int32 × AHeap) => q4.2.2)) (fun Y2 z4 m1 m2 => Prog_feesOf_b4_J ok v0 v1 m1 m2 z4) (fun q4 => ?_) Lmax _
  exact Prog_feesOf_j33_J ok v0 v1 q4.1 q4.2.1 q4.2.2
-- X1_floorAt
abbrev kBnds_floorAt : Cd := (yX1_floorAt, cX1_floorAt, 5, (some .int), 2, 44)
theorem dX1_floorAt : dcheck cX1_floorAt [(0, .aload_n 0, 1), (1, .getfield 19, 3), (4, .iload_n 2, 1), (5, .baload, 1), (6, .ifCond .eq 5, 3), (9, .iconst (-1), 1), (10, .ireturn, 1), (11, .aload_n 1, 1), (12, .iload_n 2, 1), (13, .invokevirtual 58, 3), (16, .istore_n 3, 1), (17, .iconst 0, 1), (18, .istore 4, 2), (20, .iload 4, 2), (22, .aload_n 1, 1), (23, .getfield 62, 3), (26, .if_icmp .ge 33, 3), (29, .iload_n 3, 1), (30, .aload_n 1, 1), (31, .getfield 64, 3), (34, .iload 4, 2), (36, .iaload, 1), (37, .aload_n 0, 1), (38, .getfield 15, 3), (41, .iload 4, 2), (43, .sipush 256, 3), (46, .imul, 1), (47, .iload_n 2, 1), (48, .iadd, 1), (49, .iaload, 1), (50, .imul, 1), (51, .iadd, 1), (52, .istore_n 3, 1), (53, .iinc 4 1, 3), (56, .goto (-36), 3), (59, .iload_n 3, 1), (60, .ireturn, 1)] = true := by decide +kernel
theorem cw_Bnds_floorAt {k : Cd} (h1 : kBnds_floorAt.2.2.2.2.1 + 1 ≤ k.2.2.2.2.1) (h2 : 8 + (kBnds_floorAt.2.2.1 + 11) + kBnds_floorAt.2.2.2.2.2 ≤ k.2.2.2.2.2) : Cw k kBnds_floorAt 2 := ⟨wcode_X1_floorAt, wini_SplitProgram_Bounds, ⟨by decide, by decide, by decide +kernel⟩, h1, h2⟩
def Bnds_floorAt_b20 (v0 : Nat) (v1 : Nat) (v2 : Int32) (h : AHeap) (s : Int32 × Int32) : Option ((Int32 × Int32) ⊕ ((Int32 × Int32))) :=
  (gfI h v1 6 2).bind fun x5 => (if x5 ≤ s.2 then some (Sum.inr (s.1, s.2)) else (gfR h v1 6 7).bind fun a6 => (ald 0 h a6 s.2).bind fun x7 => (gfR h v0 1 1).bind fun a8 => (ald 0 h a8 ((s.2 * 256) + v2)).bind fun x9 => some (Sum.inl (s.1 + (x7 * x9), s.2 + 1)))
theorem Bnds_floorAt_b20_J {E : JE} {l : Launch} {G : GX} {r : Option Value} {h' : AHeap} (ok : JOK E l G kBnds_floorAt 0 0 r h') (v0 : Nat) (v1 : Nat) (v2 : Int32) (h : AHeap) {Y : (Int32 × Int32) ⊕ ((Int32 × Int32)) → Prop} (k1 : ∀ s' : Int32 × Int32, Y (.inl s') → JW E kBnds_floorAt 20 [some (.ref v0), some (.ref v1), some (.int v2), some (.int s'.1), some (.int s'.2)] [] h 0 0) (kx59 : ∀ q : Int32 × Int32, Y (.inr q) → JW E kBnds_floorAt 59 [some (.ref v0), some (.ref v1), some (.int v2), some (.int q.1), some (.int q.2)] [] h 0 0) (s : Int32 × Int32) : J E kBnds_floorAt (Bnds_floorAt_b20 v0 v1 v2 h s) Y 20 [some (.ref v0), some (.ref v1), some (.int v2), some (.int s.1), some (.int s.2)] [] h 0 0 := by
  unfold Bnds_floorAt_b20
  refine J_iload (pc' := 22) ok (dOf dX1_floorAt 13 rfl) rfl rfl ?_
  refine J_aload_n (pc' := 23) ok (dOf dX1_floorAt 14 rfl) rfl rfl rfl ?_
  refine J_getI (ci := 6) (kf := 2) (C := RX6) (T := TX6) (N := 9) (pc' := 26) ok (dOf dX1_floorAt 15 rfl) rfl (by decide) rfl (by decide) win_6 wfl_X1_62 (fun x5 => ?_)
  refine J_icmp_ge (tgt := 59) (pc' := 29) ok (dOf dX1_floorAt 16 rfl) rfl (by decide) ?_ ?_
  · exact J_fin (kx59 (s.1, s.2))
  · refine J_iload_n (pc' := 30) ok (dOf dX1_floorAt 17 rfl) rfl rfl rfl ?_
    refine J_aload_n (pc' := 31) ok (dOf dX1_floorAt 18 rfl) rfl rfl rfl ?_
    refine J_getR (ci := 6) (kf := 7) (C := RX6) (T := TX6) (N := 9) (pc' := 34) ok (dOf dX1_floorAt 19 rfl) rfl (by decide) rfl (by decide) win_6 wfl_X1_64 (fun a6 => ?_)
    refine J_iload (pc' := 36) ok (dOf dX1_floorAt 20 rfl) rfl rfl ?_
    refine J_iald (pc' := 37) ok (dOf dX1_floorAt 21 rfl) rfl (fun x7 => ?_)
    refine J_aload_n (pc' := 38) ok (dOf dX1_floorAt 22 rfl) rfl rfl rfl ?_
    refine J_getR (ci := 1) (kf := 1) (C := RX1) (T := TX1) (N := 3) (pc' := 41) ok (dOf dX1_floorAt 23 rfl) rfl (by decide) rfl (by decide) win_1 wfl_X1_15 (fun a8 => ?_)
    refine J_iload (pc' := 43) ok (dOf dX1_floorAt 24 rfl) rfl rfl ?_
    refine J_sipush (v := 256) (pc' := 46) ok (dOf dX1_floorAt 25 rfl) rfl (by decide) ?_
    refine J_imul (pc' := 47) ok (dOf dX1_floorAt 26 rfl) rfl ?_
    refine J_iload_n (pc' := 48) ok (dOf dX1_floorAt 27 rfl) rfl rfl rfl ?_
    refine J_iadd (pc' := 49) ok (dOf dX1_floorAt 28 rfl) rfl ?_
    refine J_iald (pc' := 50) ok (dOf dX1_floorAt 29 rfl) rfl (fun x9 => ?_)
    refine J_imul (pc' := 51) ok (dOf dX1_floorAt 30 rfl) rfl ?_
    refine J_iadd (pc' := 52) ok (dOf dX1_floorAt 31 rfl) rfl ?_
    refine J_istore_n (ls' := [some (.ref v0), some (.ref v1), some (.int v2), some (.int (s.1 + (x7 * x9))), some (.int s.2)]) (pc' := 53) ok (dOf dX1_floorAt 32 rfl) rfl rfl (Nat.le_of_ble_eq_true rfl) rfl rfl ?_
    refine J_iinc (v := s.2 + 1) (ls' := [some (.ref v0), some (.ref v1), some (.int v2), some (.int (s.1 + (x7 * x9))), some (.int (s.2 + 1))]) (pc' := 56) ok (dOf dX1_floorAt 33 rfl) rfl rfl (by rfl) (Nat.le_of_ble_eq_true rfl) rfl rfl ?_
    refine J_goto (tgt := 20) ok (dOf dX1_floorAt 34 rfl) (by decide) ?_
    exact J_fin (k1 (s.1 + (x7 * x9), s.2 + 1))
def Bnds_floorAt_j59 (v0 : Nat) (v1 : Nat) (v2 : Int32) (v3 : Int32) (v4 : Int32) (h : AHeap) : Option (Int32 × AHeap) :=
  some (v3, h)
theorem Bnds_floorAt_j59_J {E : JE} {l : Launch} {G : GX} {v : Int32} {h' : AHeap} (ok : JOK E l G kBnds_floorAt 0 0 (some (.int v)) h') (v0 : Nat) (v1 : Nat) (v2 : Int32) (v3 : Int32) (v4 : Int32) (h : AHeap) : J E kBnds_floorAt (Bnds_floorAt_j59 v0 v1 v2 v3 v4 h) (fun z => z = (v, h')) 59 [some (.ref v0), some (.ref v1), some (.int v2), some (.int v3), some (.int v4)] [] h 0 0 := by
  unfold Bnds_floorAt_j59
  refine J_iload_n (pc' := 60) ok (dOf dX1_floorAt 35 rfl) rfl rfl rfl ?_
  exact J_ireturn ok (dOf dX1_floorAt 36 rfl) rfl (Eq.refl 0) (Nat.le_refl 0)
def Bnds_floorAt (v0 : Nat) (v1 : Nat) (v2 : Int32) (h : AHeap) : Option (Int32 × AHeap) :=
  (gfR h v0 1 2).bind fun a1 => (ald 1 h a1 v2).bind fun x2 => (if x2 = 0 then (chk h v1 6).bind fun _ => bnd2 (Prog_feesOf v1 v2 h) fun x4 h3 => (iter (Bnds_floorAt_b20 v0 v1 v2 h3) Lmax (x4, 0)).bind (fun (q20 : Int32 × Int32) => Bnds_floorAt_j59 v0 v1 v2 q20.1 q20.2 h3) else some ((-1), h))
theorem t_Bnds_floorAt {l : Launch} {G : GX} {v0 : Nat} {v1 : Nat} {v2 : Int32} {h : AHeap} {v : Int32} {h1 : AHeap} (hf : Bnds_floorAt v0 v1 v2 h = some (v, h1)) : CT l G kBnds_floorAt 0 0 [.ref v0, .ref v1, .int v2] h (some (.int v)) h1 := by
  refine CT_of (ls := [some (.ref v0), some (.ref v1), some (.int v2), none, none]) (Z := fun z => z = (v, h1)) (by decide +kernel) (Nat.le_of_ble_eq_true rfl) hf rfl ⟨rfl, rfl, rfl, trivial⟩ (fun E ok => ?_)
  unfold Bnds_floorAt
  refine J_aload_n (pc' := 1) ok (dOf dX1_floorAt 0 rfl) rfl rfl rfl ?_
  refine J_getR (ci := 1) (kf := 2) (C := RX1) (T := TX1) (N := 3) (pc' := 4) ok (dOf dX1_floorAt 1 rfl) rfl (by decide) rfl (by decide) win_1 wfl_X1_19 (fun a1 => ?_)
  refine J_iload_n (pc' := 5) ok (dOf dX1_floorAt 2 rfl) rfl rfl rfl ?_
  refine J_zald (pc' := 6) ok (dOf dX1_floorAt 3 rfl) rfl (fun x2 => ?_)
  refine J_if_eq (tgt := 11) (pc' := 9) ok (dOf dX1_floorAt 4 rfl) rfl (by decide) ?_ ?_
  · refine J_aload_n (pc' := 12) ok (dOf dX1_floorAt 7 rfl) rfl rfl rfl ?_
    refine J_iload_n (pc' := 13) ok (dOf dX1_floorAt 8 rfl) rfl rfl rfl ?_
    refine J_callVi (k2 := kProg_feesOf) (ci := 6) (T := TX6) (N := 9) (as := [.int v2]) (pc' := 16) ok (dOf dX1_floorAt 9 rfl) rfl (cw_Prog_feesOf (by decide) (by decide)) wml_X1_58 winst_X6_feesOf wsel_X6_feesOf rfl ⟨Nat.le_refl 0, Nat.le_refl 0⟩ (Nat.le_of_ble_eq_true rfl) rfl (fun _ _ hf => t_Prog_feesOf hf) (fun x4 h3 => ?_)
    refine J_istore_n (ls' := [some (.ref v0), some (.ref v1), some (.int v2), some (.int x4), none]) (pc' := 17) ok (dOf dX1_floorAt 10 rfl) rfl rfl (Nat.le_of_ble_eq_true rfl) rfl rfl ?_
    refine J_iconst (v := 0) (pc' := 18) ok (dOf dX1_floorAt 11 rfl) rfl (by decide) ?_
    refine J_istore (ls' := [some (.ref v0), some (.ref v1), some (.int v2), some (.int x4), some (.int 0)]) (pc' := 20) ok (dOf dX1_floorAt 12 rfl) rfl (Nat.le_of_ble_eq_true rfl) rfl rfl ?_
    refine J_iter (lf := fun z20 => [some (.ref v0), some (.ref v1), some (.int v2), some (.int z20.1), some (.int z20.2)]) (sf := fun _ => []) (hf := fun z20 => h3) (px := (fun (q20 : Int32 × Int32) => 59)) (lx := (fun (q20 : Int32 × Int32) => [some (.ref v0), some (.ref v1), some (.int v2), some (.int q20.1), some (.int q20.2)])) (sx := (fun (q20 : Int32 × Int32) => [])) (hx := (fun (q20 : Int32 × Int32) => h3)) (fun Y2 z20 m1 m2 => Bnds_floorAt_b20_J ok v0 v1 v2 h3 m1 m2 z20) (fun q20 => ?_) Lmax _
    exact Bnds_floorAt_j59_J ok v0 v1 v2 q20.1 q20.2 h3
  · refine J_iconst (v := (-1)) (pc' := 10) ok (dOf dX1_floorAt 5 rfl) rfl (by decide) ?_
    exact J_ireturn ok (dOf dX1_floorAt 6 rfl) rfl (Eq.refl 0) (Nat.le_refl 0)
-- X1_lowestPlan
abbrev kBnds_lowestPlan : Cd := (yX1_lowestPlan, cX1_lowestPlan, 6, (some .int), 3, 68)
theorem dX1_lowestPlan : dcheck cX1_lowestPlan [(0, .iconst (-1), 1), (1, .istore_n 2, 1), (2, .iconst (-1), 1), (3, .istore_n 3, 1), (4, .iconst 0, 1), (5, .istore 4, 2), (7, .iload 4, 2), (9, .sipush 256, 3), (12, .if_icmp .ge 54, 3), (15, .aload_n 1, 1), (16, .iload 4, 2), (18, .invokevirtual 67, 3), (21, .ifCond .eq 13, 3), (24, .aload_n 0, 1), (25, .aload_n 1, 1), (26, .iload 4, 2), (28, .invokevirtual 71, 3), (31, .goto 4, 3), (34, .iconst (-1), 1), (35, .istore 5, 2), (37, .iload 5, 2), (39, .iconst (-1), 1), (40, .if_icmp .eq 20, 3), (43, .iload_n 2, 1), (44, .iconst (-1), 1), (45, .if_icmp .eq 9, 3), (48, .iload 5, 2), (50, .iload_n 3, 1), (51, .if_icmp .ge 9, 3), (54, .iload 4, 2), (56, .istore_n 2, 1), (57, .iload 5, 2), (59, .istore_n 3, 1), (60, .iinc 4 1, 3), (63, .goto (-56), 3), (66, .iload_n 2, 1), (67, .ireturn, 1)] = true := by decide +kernel
theorem cw_Bnds_lowestPlan {k : Cd} (h1 : kBnds_lowestPlan.2.2.2.2.1 + 1 ≤ k.2.2.2.2.1) (h2 : 8 + (kBnds_lowestPlan.2.2.1 + 11) + kBnds_lowestPlan.2.2.2.2.2 ≤ k.2.2.2.2.2) : Cw k kBnds_lowestPlan 1 := ⟨wcode_X1_lowestPlan, wini_SplitProgram_Bounds, ⟨by decide, by decide, by decide +kernel⟩, h1, h2⟩
def Bnds_lowestPlan_j60 (v0 : Nat) (v1 : Nat) (v2 : Int32) (v3 : Int32) (v4 : Int32) (v5 : Int32) (h : AHeap) : Option ((Int32 × Int32 × Int32 × AHeap) ⊕ ((Int32 × Int32 × Int32 × AHeap))) :=
  some (Sum.inl (v2, v3, v4 + 1, h))
theorem Bnds_lowestPlan_j60_J {E : JE} {l : Launch} {G : GX} {r : Option Value} {h' : AHeap} (ok : JOK E l G kBnds_lowestPlan 0 0 r h') (v0 : Nat) (v1 : Nat) (v2 : Int32) (v3 : Int32) (v4 : Int32) (v5 : Int32) (h : AHeap) {Y : (Int32 × Int32 × Int32 × AHeap) ⊕ ((Int32 × Int32 × Int32 × AHeap)) → Prop} (k1 : ∀ s' : Int32 × Int32 × Int32 × AHeap, Y (.inl s') → JW E kBnds_lowestPlan 7 [some (.ref v0), some (.ref v1), some (.int s'.1), some (.int s'.2.1), some (.int s'.2.2.1), none] [] s'.2.2.2 0 0) (kx66 : ∀ q : Int32 × Int32 × Int32 × AHeap, Y (.inr q) → JW E kBnds_lowestPlan 66 [some (.ref v0), some (.ref v1), some (.int q.1), some (.int q.2.1), some (.int q.2.2.1), none] [] q.2.2.2 0 0) : J E kBnds_lowestPlan (Bnds_lowestPlan_j60 v0 v1 v2 v3 v4 v5 h) Y 60 [some (.ref v0), some (.ref v1), some (.int v2), some (.int v3), some (.int v4), some (.int v5)] [] h 0 0 := by
  unfold Bnds_lowestPlan_j60
  refine J_iinc (v := v4 + 1) (ls' := [some (.ref v0), some (.ref v1), some (.int v2), some (.int v3), some (.int (v4 + 1)), some (.int v5)]) (pc' := 63) ok (dOf dX1_lowestPlan 33 rfl) rfl rfl (by rfl) (Nat.le_of_ble_eq_true rfl) rfl rfl ?_
  refine J_goto (tgt := 7) ok (dOf dX1_lowestPlan 34 rfl) (by decide) ?_
  refine J_weak (ls' := [some (.ref v0), some (.ref v1), some (.int v2), some (.int v3), some (.int (v4 + 1)), none]) ⟨rfl, rfl, rfl, rfl, rfl, trivial⟩ ?_
  exact J_fin (k1 (v2, v3, v4 + 1, h))
def Bnds_lowestPlan_j54 (v0 : Nat) (v1 : Nat) (v2 : Int32) (v3 : Int32) (v4 : Int32) (v5 : Int32) (h : AHeap) : Option ((Int32 × Int32 × Int32 × AHeap) ⊕ ((Int32 × Int32 × Int32 × AHeap))) :=
  Bnds_lowestPlan_j60 v0 v1 v4 v5 v4 v5 h
theorem Bnds_lowestPlan_j54_J {E : JE} {l : Launch} {G : GX} {r : Option Value} {h' : AHeap} (ok : JOK E l G kBnds_lowestPlan 0 0 r h') (v0 : Nat) (v1 : Nat) (v2 : Int32) (v3 : Int32) (v4 : Int32) (v5 : Int32) (h : AHeap) {Y : (Int32 × Int32 × Int32 × AHeap) ⊕ ((Int32 × Int32 × Int32 × AHeap)) → Prop} (k1 : ∀ s' : Int32 × Int32 × Int32 × AHeap, Y (.inl s') → JW E kBnds_lowestPlan 7 [some (.ref v0), some (.ref v1), some (.int s'.1), some (.int s'.2.1), some (.int s'.2.2.1), none] [] s'.2.2.2 0 0) (kx66 : ∀ q : Int32 × Int32 × Int32 × AHeap, Y (.inr q) → JW E kBnds_lowestPlan 66 [some (.ref v0), some (.ref v1), some (.int q.1), some (.int q.2.1), some (.int q.2.2.1), none] [] q.2.2.2 0 0) : J E kBnds_lowestPlan (Bnds_lowestPlan_j54 v0 v1 v2 v3 v4 v5 h) Y 54 [some (.ref v0), some (.ref v1), some (.int v2), some (.int v3), some (.int v4), some (.int v5)] [] h 0 0 := by
  unfold Bnds_lowestPlan_j54
  refine J_iload (pc' := 56) ok (dOf dX1_lowestPlan 29 rfl) rfl rfl ?_
  refine J_istore_n (ls' := [some (.ref v0), some (.ref v1), some (.int v4), some (.int v3), some (.int v4), some (.int v5)]) (pc' := 57) ok (dOf dX1_lowestPlan 30 rfl) rfl rfl (Nat.le_of_ble_eq_true rfl) rfl rfl ?_
  refine J_iload (pc' := 59) ok (dOf dX1_lowestPlan 31 rfl) rfl rfl ?_
  refine J_istore_n (ls' := [some (.ref v0), some (.ref v1), some (.int v4), some (.int v5), some (.int v4), some (.int v5)]) (pc' := 60) ok (dOf dX1_lowestPlan 32 rfl) rfl rfl (Nat.le_of_ble_eq_true rfl) rfl rfl ?_
  exact Bnds_lowestPlan_j60_J ok v0 v1 v4 v5 v4 v5 h k1 kx66
def Bnds_lowestPlan_j35 (v0 : Nat) (v1 : Nat) (v2 : Int32) (v3 : Int32) (v4 : Int32) (t0 : Int32) (h : AHeap) : Option ((Int32 × Int32 × Int32 × AHeap) ⊕ ((Int32 × Int32 × Int32 × AHeap))) :=
  (if t0 = (-1) then Bnds_lowestPlan_j60 v0 v1 v2 v3 v4 t0 h else (if v2 = (-1) then Bnds_lowestPlan_j54 v0 v1 v2 v3 v4 t0 h else (if v3 ≤ t0 then Bnds_lowestPlan_j60 v0 v1 v2 v3 v4 t0 h else Bnds_lowestPlan_j54 v0 v1 v2 v3 v4 t0 h)))
theorem Bnds_lowestPlan_j35_J {E : JE} {l : Launch} {G : GX} {r : Option Value} {h' : AHeap} (ok : JOK E l G kBnds_lowestPlan 0 0 r h') (v0 : Nat) (v1 : Nat) (v2 : Int32) (v3 : Int32) (v4 : Int32) (t0 : Int32) (h : AHeap) {Y : (Int32 × Int32 × Int32 × AHeap) ⊕ ((Int32 × Int32 × Int32 × AHeap)) → Prop} (k1 : ∀ s' : Int32 × Int32 × Int32 × AHeap, Y (.inl s') → JW E kBnds_lowestPlan 7 [some (.ref v0), some (.ref v1), some (.int s'.1), some (.int s'.2.1), some (.int s'.2.2.1), none] [] s'.2.2.2 0 0) (kx66 : ∀ q : Int32 × Int32 × Int32 × AHeap, Y (.inr q) → JW E kBnds_lowestPlan 66 [some (.ref v0), some (.ref v1), some (.int q.1), some (.int q.2.1), some (.int q.2.2.1), none] [] q.2.2.2 0 0) : J E kBnds_lowestPlan (Bnds_lowestPlan_j35 v0 v1 v2 v3 v4 t0 h) Y 35 [some (.ref v0), some (.ref v1), some (.int v2), some (.int v3), some (.int v4), none] [.int t0] h 0 0 := by
  unfold Bnds_lowestPlan_j35
  refine J_istore (ls' := [some (.ref v0), some (.ref v1), some (.int v2), some (.int v3), some (.int v4), some (.int t0)]) (pc' := 37) ok (dOf dX1_lowestPlan 19 rfl) rfl (Nat.le_of_ble_eq_true rfl) rfl rfl ?_
  refine J_iload (pc' := 39) ok (dOf dX1_lowestPlan 20 rfl) rfl rfl ?_
  refine J_iconst (v := (-1)) (pc' := 40) ok (dOf dX1_lowestPlan 21 rfl) rfl (by decide) ?_
  refine J_icmp_eq (tgt := 60) (pc' := 43) ok (dOf dX1_lowestPlan 22 rfl) rfl (by decide) ?_ ?_
  · exact Bnds_lowestPlan_j60_J ok v0 v1 v2 v3 v4 t0 h k1 kx66
  · refine J_iload_n (pc' := 44) ok (dOf dX1_lowestPlan 23 rfl) rfl rfl rfl ?_
    refine J_iconst (v := (-1)) (pc' := 45) ok (dOf dX1_lowestPlan 24 rfl) rfl (by decide) ?_
    refine J_icmp_eq (tgt := 54) (pc' := 48) ok (dOf dX1_lowestPlan 25 rfl) rfl (by decide) ?_ ?_
    · exact Bnds_lowestPlan_j54_J ok v0 v1 v2 v3 v4 t0 h k1 kx66
    · refine J_iload (pc' := 50) ok (dOf dX1_lowestPlan 26 rfl) rfl rfl ?_
      refine J_iload_n (pc' := 51) ok (dOf dX1_lowestPlan 27 rfl) rfl rfl rfl ?_
      refine J_icmp_ge (tgt := 60) (pc' := 54) ok (dOf dX1_lowestPlan 28 rfl) rfl (by decide) ?_ ?_
      · exact Bnds_lowestPlan_j60_J ok v0 v1 v2 v3 v4 t0 h k1 kx66
      · exact Bnds_lowestPlan_j54_J ok v0 v1 v2 v3 v4 t0 h k1 kx66
def Bnds_lowestPlan_b7 (v0 : Nat) (v1 : Nat) (s : Int32 × Int32 × Int32 × AHeap) : Option ((Int32 × Int32 × Int32 × AHeap) ⊕ ((Int32 × Int32 × Int32 × AHeap))) :=
  (if 256 ≤ s.2.2.1 then some (Sum.inr (s.1, s.2.1, s.2.2.1, s.2.2.2)) else (chk s.2.2.2 v1 6).bind fun _ => bnd2 (Prog_isPlan v1 s.2.2.1 s.2.2.2) fun x2 h1 => (if x2 = 0 then Bnds_lowestPlan_j35 v0 v1 s.1 s.2.1 s.2.2.1 (-1) h1 else (chk h1 v0 1).bind fun _ => bnd2 (Bnds_floorAt v0 v1 s.2.2.1 h1) fun x4 h3 => Bnds_lowestPlan_j35 v0 v1 s.1 s.2.1 s.2.2.1 x4 h3))
theorem Bnds_lowestPlan_b7_J {E : JE} {l : Launch} {G : GX} {r : Option Value} {h' : AHeap} (ok : JOK E l G kBnds_lowestPlan 0 0 r h') (v0 : Nat) (v1 : Nat) {Y : (Int32 × Int32 × Int32 × AHeap) ⊕ ((Int32 × Int32 × Int32 × AHeap)) → Prop} (k1 : ∀ s' : Int32 × Int32 × Int32 × AHeap, Y (.inl s') → JW E kBnds_lowestPlan 7 [some (.ref v0), some (.ref v1), some (.int s'.1), some (.int s'.2.1), some (.int s'.2.2.1), none] [] s'.2.2.2 0 0) (kx66 : ∀ q : Int32 × Int32 × Int32 × AHeap, Y (.inr q) → JW E kBnds_lowestPlan 66 [some (.ref v0), some (.ref v1), some (.int q.1), some (.int q.2.1), some (.int q.2.2.1), none] [] q.2.2.2 0 0) (s : Int32 × Int32 × Int32 × AHeap) : J E kBnds_lowestPlan (Bnds_lowestPlan_b7 v0 v1 s) Y 7 [some (.ref v0), some (.ref v1), some (.int s.1), some (.int s.2.1), some (.int s.2.2.1), none] [] s.2.2.2 0 0 := by
  unfold Bnds_lowestPlan_b7
  refine J_iload (pc' := 9) ok (dOf dX1_lowestPlan 6 rfl) rfl rfl ?_
  refine J_sipush (v := 256) (pc' := 12) ok (dOf dX1_lowestPlan 7 rfl) rfl (by decide) ?_
  refine J_icmp_ge (tgt := 66) (pc' := 15) ok (dOf dX1_lowestPlan 8 rfl) rfl (by decide) ?_ ?_
  · exact J_fin (kx66 (s.1, s.2.1, s.2.2.1, s.2.2.2))
  · refine J_aload_n (pc' := 16) ok (dOf dX1_lowestPlan 9 rfl) rfl rfl rfl ?_
    refine J_iload (pc' := 18) ok (dOf dX1_lowestPlan 10 rfl) rfl rfl ?_
    refine J_callVi (k2 := kProg_isPlan) (ci := 6) (T := TX6) (N := 9) (as := [.int s.2.2.1]) (pc' := 21) ok (dOf dX1_lowestPlan 11 rfl) rfl (cw_Prog_isPlan (by decide) (by decide)) wml_X1_67 winst_X6_isPlan wsel_X6_isPlan rfl ⟨Nat.le_refl 0, Nat.le_refl 0⟩ (Nat.le_of_ble_eq_true rfl) rfl (fun _ _ hf => t_Prog_isPlan hf) (fun x2 h1 => ?_)
    refine J_if_eq (tgt := 34) (pc' := 24) ok (dOf dX1_lowestPlan 12 rfl) rfl (by decide) ?_ ?_
    · refine J_iconst (v := (-1)) (pc' := 35) ok (dOf dX1_lowestPlan 18 rfl) rfl (by decide) ?_
      exact Bnds_lowestPlan_j35_J ok v0 v1 s.1 s.2.1 s.2.2.1 (-1) h1 k1 kx66
    · refine J_aload_n (pc' := 25) ok (dOf dX1_lowestPlan 13 rfl) rfl rfl rfl ?_
      refine J_aload_n (pc' := 26) ok (dOf dX1_lowestPlan 14 rfl) rfl rfl rfl ?_
      refine J_iload (pc' := 28) ok (dOf dX1_lowestPlan 15 rfl) rfl rfl ?_
      refine J_callVi (k2 := kBnds_floorAt) (ci := 1) (T := TX1) (N := 3) (as := [.ref v1, .int s.2.2.1]) (pc' := 31) ok (dOf dX1_lowestPlan 16 rfl) rfl (cw_Bnds_floorAt (by decide) (by decide)) wml_X1_71 winst_X1_floorAt wsel_X1_floorAt rfl ⟨Nat.le_refl 0, Nat.le_refl 0⟩ (Nat.le_of_ble_eq_true rfl) rfl (fun _ _ hf => t_Bnds_floorAt hf) (fun x4 h3 => ?_)
      refine J_goto (tgt := 35) ok (dOf dX1_lowestPlan 17 rfl) (by decide) ?_
      exact Bnds_lowestPlan_j35_J ok v0 v1 s.1 s.2.1 s.2.2.1 x4 h3 k1 kx66
def Bnds_lowestPlan_j66 (v0 : Nat) (v1 : Nat) (v2 : Int32) (v3 : Int32) (v4 : Int32) (h : AHeap) : Option (Int32 × AHeap) :=
  some (v2, h)
theorem Bnds_lowestPlan_j66_J {E : JE} {l : Launch} {G : GX} {v : Int32} {h' : AHeap} (ok : JOK E l G kBnds_lowestPlan 0 0 (some (.int v)) h') (v0 : Nat) (v1 : Nat) (v2 : Int32) (v3 : Int32) (v4 : Int32) (h : AHeap) : J E kBnds_lowestPlan (Bnds_lowestPlan_j66 v0 v1 v2 v3 v4 h) (fun z => z = (v, h')) 66 [some (.ref v0), some (.ref v1), some (.int v2), some (.int v3), some (.int v4), none] [] h 0 0 := by
  unfold Bnds_lowestPlan_j66
  refine J_iload_n (pc' := 67) ok (dOf dX1_lowestPlan 35 rfl) rfl rfl rfl ?_
  exact J_ireturn ok (dOf dX1_lowestPlan 36 rfl) rfl (Eq.refl 0) (Nat.le_refl 0)
def Bnds_lowestPlan (v0 : Nat) (v1 : Nat) (h : AHeap) : Option (Int32 × AHeap) :=
  (iter (Bnds_lowestPlan_b7 v0 v1) Lmax ((-1), (-1), 0, h)).bind (fun (q7 : Int32 × Int32 × Int32 × AHeap) => Bnds_lowestPlan_j66 v0 v1 q7.1 q7.2.1 q7.2.2.1 q7.2.2.2)
theorem t_Bnds_lowestPlan {l : Launch} {G : GX} {v0 : Nat} {v1 : Nat} {h : AHeap} {v : Int32} {h1 : AHeap} (hf : Bnds_lowestPlan v0 v1 h = some (v, h1)) : CT l G kBnds_lowestPlan 0 0 [.ref v0, .ref v1] h (some (.int v)) h1 := by
  refine CT_of (ls := [some (.ref v0), some (.ref v1), none, none, none, none]) (Z := fun z => z = (v, h1)) (by decide +kernel) (Nat.le_of_ble_eq_true rfl) hf rfl ⟨rfl, rfl, trivial⟩ (fun E ok => ?_)
  unfold Bnds_lowestPlan
  refine J_iconst (v := (-1)) (pc' := 1) ok (dOf dX1_lowestPlan 0 rfl) rfl (by decide) ?_
  refine J_istore_n (ls' := [some (.ref v0), some (.ref v1), some (.int (-1)), none, none, none]) (pc' := 2) ok (dOf dX1_lowestPlan 1 rfl) rfl rfl (Nat.le_of_ble_eq_true rfl) rfl rfl ?_
  refine J_iconst (v := (-1)) (pc' := 3) ok (dOf dX1_lowestPlan 2 rfl) rfl (by decide) ?_
  refine J_istore_n (ls' := [some (.ref v0), some (.ref v1), some (.int (-1)), some (.int (-1)), none, none]) (pc' := 4) ok (dOf dX1_lowestPlan 3 rfl) rfl rfl (Nat.le_of_ble_eq_true rfl) rfl rfl ?_
  refine J_iconst (v := 0) (pc' := 5) ok (dOf dX1_lowestPlan 4 rfl) rfl (by decide) ?_
  refine J_istore (ls' := [some (.ref v0), some (.ref v1), some (.int (-1)), some (.int (-1)), some (.int 0), none]) (pc' := 7) ok (dOf dX1_lowestPlan 5 rfl) rfl (Nat.le_of_ble_eq_true rfl) rfl rfl ?_
  refine J_iter (lf := fun z7 => [some (.ref v0), some (.ref v1), some (.int z7.1), some (.int z7.2.1), some (.int z7.2.2.1), none]) (sf := fun _ => []) (hf := fun z7 => z7.2.2.2) (px := (fun (q7 : Int32 × Int32 × Int32 × AHeap) => 66)) (lx := (fun (q7 : Int32 × Int32 × Int32 × AHeap) => [some (.ref v0), some (.ref v1), some (.int q7.1), some (.int q7.2.1), some (.int q7.2.2.1), none])) (sx := (fun (q7 : Int32 × Int32 × Int32 × AHeap) => [])) (hx := (fun (q7 : Int32 × Int32 × Int32 × AHeap) => q7.2.2.2)) (fun Y2 z7 m1 m2 => Bnds_lowestPlan_b7_J ok v0 v1 m1 m2 z7) (fun q7 => ?_) Lmax _
  exact Bnds_lowestPlan_j66_J ok v0 v1 q7.1 q7.2.1 q7.2.2.1 q7.2.2.2
