-- X10_refuse
abbrev kSp_refuse : Cd := (yX10_refuse, cX10_refuse, 3, (some .int), 0, 0)
theorem dX10_refuse : dcheck cX10_refuse [(0, .iconst (-1), 1), (1, .iload_n 1, 1), (2, .isub, 1), (3, .istore_n 2, 1), (4, .iload_n 2, 1), (5, .ifCond .lt 19, 3), (8, .iload_n 2, 1), (9, .bipush 6, 2), (11, .if_icmp .ge 13, 3), (14, .aload_n 0, 1), (15, .getfield 78, 3), (18, .iload_n 2, 1), (19, .dup2, 1), (20, .iaload, 1), (21, .iconst 1, 1), (22, .iadd, 1), (23, .iastore, 1), (24, .aload_n 0, 1), (25, .iload_n 1, 1), (26, .putfield 351, 3), (29, .iload_n 1, 1), (30, .ireturn, 1)] = true := by decide +kernel
theorem cw_Sp_refuse {k : Cd} (h1 : kSp_refuse.2.2.2.2.1 + 1 ≤ k.2.2.2.2.1) (h2 : 8 + (kSp_refuse.2.2.1 + 11) + kSp_refuse.2.2.2.2.2 ≤ k.2.2.2.2.2) : Cw k kSp_refuse 1 := ⟨wcode_X10_refuse, wini_SplitProgram, ⟨by decide, by decide, by decide +kernel⟩, h1, h2⟩
def Sp_refuse_j24 (v0 : Nat) (v1 : Int32) (v2 : Int32) (h : AHeap) : Option (Int32 × AHeap) :=
  (pfV h v0 10 13 (.int v1)).bind fun h1 => some (v1, h1)
theorem Sp_refuse_j24_J {E : JE} {l : Launch} {G : GX} {v : Int32} {h' : AHeap} (ok : JOK E l G kSp_refuse 0 0 (some (.int v)) h') (v0 : Nat) (v1 : Int32) (v2 : Int32) (h : AHeap) : J E kSp_refuse (Sp_refuse_j24 v0 v1 v2 h) (fun z => z = (v, h')) 24 [some (.ref v0), some (.int v1), some (.int v2)] [] h 0 0 := by
  unfold Sp_refuse_j24
  refine J_aload_n (pc' := 25) ok (dOf dX10_refuse 17 rfl) rfl rfl rfl ?_
  refine J_iload_n (pc' := 26) ok (dOf dX10_refuse 18 rfl) rfl rfl rfl ?_
  refine J_putI (ci := 10) (kf := 13) (C := RX10) (T := TX10) (N := 14) (pc' := 29) ok tyX10 (dOf dX10_refuse 19 rfl) rfl rfl (by decide) win_10 tyX10_ok nmX10 rfl rfl wfl_X10_351 (fun h1 _ => ?_)
  refine J_iload_n (pc' := 30) ok (dOf dX10_refuse 20 rfl) rfl rfl rfl ?_
  exact J_ireturn ok (dOf dX10_refuse 21 rfl) rfl (Eq.refl 0) (Nat.le_refl 0)
def Sp_refuse (v0 : Nat) (v1 : Int32) (h : AHeap) : Option (Int32 × AHeap) :=
  (if ((-1) - v1) < 0 then Sp_refuse_j24 v0 v1 ((-1) - v1) h else (if 6 ≤ ((-1) - v1) then Sp_refuse_j24 v0 v1 ((-1) - v1) h else (gfR h v0 10 12).bind fun a2 => (ald 0 h a2 ((-1) - v1)).bind fun x3 => (ast 0 h a2 ((-1) - v1) (x3 + 1)).bind fun h4 => Sp_refuse_j24 v0 v1 ((-1) - v1) h4))
theorem t_Sp_refuse {l : Launch} {G : GX} {v0 : Nat} {v1 : Int32} {h : AHeap} {v : Int32} {h1 : AHeap} (hf : Sp_refuse v0 v1 h = some (v, h1)) : CT l G kSp_refuse 0 0 [.ref v0, .int v1] h (some (.int v)) h1 := by
  refine CT_of (ls := [some (.ref v0), some (.int v1), none]) (Z := fun z => z = (v, h1)) (by decide +kernel) (Nat.le_of_ble_eq_true rfl) hf rfl ⟨rfl, rfl, trivial⟩ (fun E ok => ?_)
  unfold Sp_refuse
  refine J_iconst (v := (-1)) (pc' := 1) ok (dOf dX10_refuse 0 rfl) rfl (by decide) ?_
  refine J_iload_n (pc' := 2) ok (dOf dX10_refuse 1 rfl) rfl rfl rfl ?_
  refine J_isub (pc' := 3) ok (dOf dX10_refuse 2 rfl) rfl ?_
  refine J_istore_n (ls' := [some (.ref v0), some (.int v1), some (.int ((-1) - v1))]) (pc' := 4) ok (dOf dX10_refuse 3 rfl) rfl rfl (Nat.le_of_ble_eq_true rfl) rfl rfl ?_
  refine J_iload_n (pc' := 5) ok (dOf dX10_refuse 4 rfl) rfl rfl rfl ?_
  refine J_if_lt (tgt := 24) (pc' := 8) ok (dOf dX10_refuse 5 rfl) rfl (by decide) ?_ ?_
  · exact Sp_refuse_j24_J ok v0 v1 ((-1) - v1) h
  · refine J_iload_n (pc' := 9) ok (dOf dX10_refuse 6 rfl) rfl rfl rfl ?_
    refine J_bipush (v := 6) (pc' := 11) ok (dOf dX10_refuse 7 rfl) rfl (by decide) ?_
    refine J_icmp_ge (tgt := 24) (pc' := 14) ok (dOf dX10_refuse 8 rfl) rfl (by decide) ?_ ?_
    · exact Sp_refuse_j24_J ok v0 v1 ((-1) - v1) h
    · refine J_aload_n (pc' := 15) ok (dOf dX10_refuse 9 rfl) rfl rfl rfl ?_
      refine J_getR (ci := 10) (kf := 12) (C := RX10) (T := TX10) (N := 14) (pc' := 18) ok (dOf dX10_refuse 10 rfl) rfl (by decide) rfl (by decide) win_10 wfl_X10_78 (fun a2 => ?_)
      refine J_iload_n (pc' := 19) ok (dOf dX10_refuse 11 rfl) rfl rfl rfl ?_
      refine J_dup2 (pc' := 20) ok (dOf dX10_refuse 12 rfl) rfl rfl rfl ?_
      refine J_iald (pc' := 21) ok (dOf dX10_refuse 13 rfl) rfl (fun x3 => ?_)
      refine J_iconst (v := 1) (pc' := 22) ok (dOf dX10_refuse 14 rfl) rfl (by decide) ?_
      refine J_iadd (pc' := 23) ok (dOf dX10_refuse 15 rfl) rfl ?_
      refine J_iast (pc' := 24) ok (dOf dX10_refuse 16 rfl) rfl (fun h4 _ => ?_)
      exact Sp_refuse_j24_J ok v0 v1 ((-1) - v1) h4
-- X10_accept
abbrev kSp_accept : Cd := (yX10_accept, cX10_accept, 2, (some .int), 0, 0)
theorem dX10_accept : dcheck cX10_accept [(0, .aload_n 0, 1), (1, .iconst 0, 1), (2, .putfield 351, 3), (5, .iload_n 1, 1), (6, .ireturn, 1)] = true := by decide +kernel
theorem cw_Sp_accept {k : Cd} (h1 : kSp_accept.2.2.2.2.1 + 1 ≤ k.2.2.2.2.1) (h2 : 8 + (kSp_accept.2.2.1 + 11) + kSp_accept.2.2.2.2.2 ≤ k.2.2.2.2.2) : Cw k kSp_accept 1 := ⟨wcode_X10_accept, wini_SplitProgram, ⟨by decide, by decide, by decide +kernel⟩, h1, h2⟩
def Sp_accept (v0 : Nat) (v1 : Int32) (h : AHeap) : Option (Int32 × AHeap) :=
  (pfV h v0 10 13 (.int 0)).bind fun h1 => some (v1, h1)
theorem t_Sp_accept {l : Launch} {G : GX} {v0 : Nat} {v1 : Int32} {h : AHeap} {v : Int32} {h1 : AHeap} (hf : Sp_accept v0 v1 h = some (v, h1)) : CT l G kSp_accept 0 0 [.ref v0, .int v1] h (some (.int v)) h1 := by
  refine CT_of (ls := [some (.ref v0), some (.int v1)]) (Z := fun z => z = (v, h1)) (by decide +kernel) (Nat.le_of_ble_eq_true rfl) hf rfl ⟨rfl, rfl, trivial⟩ (fun E ok => ?_)
  unfold Sp_accept
  refine J_aload_n (pc' := 1) ok (dOf dX10_accept 0 rfl) rfl rfl rfl ?_
  refine J_iconst (v := 0) (pc' := 2) ok (dOf dX10_accept 1 rfl) rfl (by decide) ?_
  refine J_putI (ci := 10) (kf := 13) (C := RX10) (T := TX10) (N := 14) (pc' := 5) ok tyX10 (dOf dX10_accept 2 rfl) rfl rfl (by decide) win_10 tyX10_ok nmX10 rfl rfl wfl_X10_351 (fun h1 _ => ?_)
  refine J_iload_n (pc' := 6) ok (dOf dX10_accept 3 rfl) rfl rfl rfl ?_
  exact J_ireturn ok (dOf dX10_accept 4 rfl) rfl (Eq.refl 0) (Nat.le_refl 0)
-- X10_terms
abbrev kSp_terms : Cd := (yX10_terms, cX10_terms, 4, (some .int), 1, 22)
theorem dX10_terms : dcheck cX10_terms [(0, .iload_n 1, 1), (1, .ifCond .lt 8, 3), (4, .iload_n 1, 1), (5, .iconst 4, 1), (6, .if_icmp .lt 9, 3), (9, .aload_n 0, 1), (10, .iconst (-1), 1), (11, .invokevirtual 81, 3), (14, .ireturn, 1), (15, .iload_n 2, 1), (16, .getstatic 85, 3), (19, .iload_n 1, 1), (20, .iaload, 1), (21, .if_icmp .lt 12, 3), (24, .iload_n 2, 1), (25, .getstatic 88, 3), (28, .iload_n 1, 1), (29, .iaload, 1), (30, .if_icmp .le 9, 3), (33, .aload_n 0, 1), (34, .iconst (-1), 1), (35, .invokevirtual 81, 3), (38, .ireturn, 1), (39, .aload_n 0, 1), (40, .getfield 16, 3), (43, .iload_n 1, 1), (44, .iaload, 1), (45, .istore_n 3, 1), (46, .aload_n 0, 1), (47, .getfield 16, 3), (50, .iload_n 1, 1), (51, .iload_n 2, 1), (52, .iastore, 1), (53, .aload_n 0, 1), (54, .iload_n 3, 1), (55, .invokevirtual 91, 3), (58, .ireturn, 1)] = true := by decide +kernel
theorem cw_Sp_terms {k : Cd} (h1 : kSp_terms.2.2.2.2.1 + 1 ≤ k.2.2.2.2.1) (h2 : 8 + (kSp_terms.2.2.1 + 11) + kSp_terms.2.2.2.2.2 ≤ k.2.2.2.2.2) : Cw k kSp_terms 2 := ⟨wcode_X10_terms, wini_SplitProgram, ⟨by decide, by decide, by decide +kernel⟩, h1, h2⟩
def Sp_terms_j9 (v0 : Nat) (v1 : Int32) (v2 : Int32) (h : AHeap) : Option (Int32 × AHeap) :=
  (chk h v0 10).bind fun _ => bnd2 (Sp_refuse v0 (-1) h) fun x2 h1 => some (x2, h1)
theorem Sp_terms_j9_J {E : JE} {l : Launch} {G : GX} {v : Int32} {h' : AHeap} (ok : JOK E l G kSp_terms 0 0 (some (.int v)) h') (v0 : Nat) (v1 : Int32) (v2 : Int32) (h : AHeap) : J E kSp_terms (Sp_terms_j9 v0 v1 v2 h) (fun z => z = (v, h')) 9 [some (.ref v0), some (.int v1), some (.int v2), none] [] h 0 0 := by
  unfold Sp_terms_j9
  refine J_aload_n (pc' := 10) ok (dOf dX10_terms 5 rfl) rfl rfl rfl ?_
  refine J_iconst (v := (-1)) (pc' := 11) ok (dOf dX10_terms 6 rfl) rfl (by decide) ?_
  refine J_callVi (k2 := kSp_refuse) (ci := 10) (T := TX10) (N := 14) (as := [.int (-1)]) (pc' := 14) ok (dOf dX10_terms 7 rfl) rfl (cw_Sp_refuse (by decide) (by decide)) wml_X10_81 winst_X10_refuse wsel_X10_refuse rfl ⟨Nat.le_refl 0, Nat.le_refl 0⟩ (Nat.le_of_ble_eq_true rfl) rfl (fun _ _ hf => t_Sp_refuse hf) (fun x2 h1 => ?_)
  exact J_ireturn ok (dOf dX10_terms 8 rfl) rfl (Eq.refl 0) (Nat.le_refl 0)
def Sp_terms_j33 (v0 : Nat) (v1 : Int32) (v2 : Int32) (h : AHeap) : Option (Int32 × AHeap) :=
  (chk h v0 10).bind fun _ => bnd2 (Sp_refuse v0 (-1) h) fun x5 h4 => some (x5, h4)
theorem Sp_terms_j33_J {E : JE} {l : Launch} {G : GX} {v : Int32} {h' : AHeap} (ok : JOK E l G kSp_terms 0 0 (some (.int v)) h') (v0 : Nat) (v1 : Int32) (v2 : Int32) (h : AHeap) : J E kSp_terms (Sp_terms_j33 v0 v1 v2 h) (fun z => z = (v, h')) 33 [some (.ref v0), some (.int v1), some (.int v2), none] [] h 0 0 := by
  unfold Sp_terms_j33
  refine J_aload_n (pc' := 34) ok (dOf dX10_terms 19 rfl) rfl rfl rfl ?_
  refine J_iconst (v := (-1)) (pc' := 35) ok (dOf dX10_terms 20 rfl) rfl (by decide) ?_
  refine J_callVi (k2 := kSp_refuse) (ci := 10) (T := TX10) (N := 14) (as := [.int (-1)]) (pc' := 38) ok (dOf dX10_terms 21 rfl) rfl (cw_Sp_refuse (by decide) (by decide)) wml_X10_81 winst_X10_refuse wsel_X10_refuse rfl ⟨Nat.le_refl 0, Nat.le_refl 0⟩ (Nat.le_of_ble_eq_true rfl) rfl (fun _ _ hf => t_Sp_refuse hf) (fun x5 h4 => ?_)
  exact J_ireturn ok (dOf dX10_terms 22 rfl) rfl (Eq.refl 0) (Nat.le_refl 0)
def Sp_terms (v0 : Nat) (v1 : Int32) (v2 : Int32) (h : AHeap) : Option (Int32 × AHeap) :=
  (if v1 < 0 then Sp_terms_j9 v0 v1 v2 h else (if v1 < 4 then (ald 0 h (FB + 0) v1).bind fun x3 => (if v2 < x3 then Sp_terms_j33 v0 v1 v2 h else (ald 0 h (FB + 1) v1).bind fun x6 => (if v2 ≤ x6 then (gfR h v0 10 1).bind fun a7 => (ald 0 h a7 v1).bind fun x8 => (gfR h v0 10 1).bind fun a9 => (ast 0 h a9 v1 v2).bind fun h10 => (chk h10 v0 10).bind fun _ => bnd2 (Sp_accept v0 x8 h10) fun x12 h11 => some (x12, h11) else Sp_terms_j33 v0 v1 v2 h)) else Sp_terms_j9 v0 v1 v2 h))
theorem t_Sp_terms {l : Launch} {G : GX} {v0 : Nat} {v1 : Int32} {v2 : Int32} {h : AHeap} {v : Int32} {h1 : AHeap} (hf : Sp_terms v0 v1 v2 h = some (v, h1)) : CT l G kSp_terms 0 0 [.ref v0, .int v1, .int v2] h (some (.int v)) h1 := by
  refine CT_of (ls := [some (.ref v0), some (.int v1), some (.int v2), none]) (Z := fun z => z = (v, h1)) (by decide +kernel) (Nat.le_of_ble_eq_true rfl) hf rfl ⟨rfl, rfl, rfl, trivial⟩ (fun E ok => ?_)
  unfold Sp_terms
  refine J_iload_n (pc' := 1) ok (dOf dX10_terms 0 rfl) rfl rfl rfl ?_
  refine J_if_lt (tgt := 9) (pc' := 4) ok (dOf dX10_terms 1 rfl) rfl (by decide) ?_ ?_
  · exact Sp_terms_j9_J ok v0 v1 v2 h
  · refine J_iload_n (pc' := 5) ok (dOf dX10_terms 2 rfl) rfl rfl rfl ?_
    refine J_iconst (v := 4) (pc' := 6) ok (dOf dX10_terms 3 rfl) rfl (by decide) ?_
    refine J_icmp_lt (tgt := 15) (pc' := 9) ok (dOf dX10_terms 4 rfl) rfl (by decide) ?_ ?_
    · refine J_iload_n (pc' := 16) ok (dOf dX10_terms 9 rfl) rfl rfl rfl ?_
      refine J_gsLow (pc' := 19) ok (dOf dX10_terms 10 rfl) rfl wfl_X10_85 ?_
      refine J_iload_n (pc' := 20) ok (dOf dX10_terms 11 rfl) rfl rfl rfl ?_
      refine J_iald (pc' := 21) ok (dOf dX10_terms 12 rfl) rfl (fun x3 => ?_)
      refine J_icmp_lt (tgt := 33) (pc' := 24) ok (dOf dX10_terms 13 rfl) rfl (by decide) ?_ ?_
      · exact Sp_terms_j33_J ok v0 v1 v2 h
      · refine J_iload_n (pc' := 25) ok (dOf dX10_terms 14 rfl) rfl rfl rfl ?_
        refine J_gsHigh (pc' := 28) ok (dOf dX10_terms 15 rfl) rfl wfl_X10_88 ?_
        refine J_iload_n (pc' := 29) ok (dOf dX10_terms 16 rfl) rfl rfl rfl ?_
        refine J_iald (pc' := 30) ok (dOf dX10_terms 17 rfl) rfl (fun x6 => ?_)
        refine J_icmp_le (tgt := 39) (pc' := 33) ok (dOf dX10_terms 18 rfl) rfl (by decide) ?_ ?_
        · refine J_aload_n (pc' := 40) ok (dOf dX10_terms 23 rfl) rfl rfl rfl ?_
          refine J_getR (ci := 10) (kf := 1) (C := RX10) (T := TX10) (N := 14) (pc' := 43) ok (dOf dX10_terms 24 rfl) rfl (by decide) rfl (by decide) win_10 wfl_X10_16 (fun a7 => ?_)
          refine J_iload_n (pc' := 44) ok (dOf dX10_terms 25 rfl) rfl rfl rfl ?_
          refine J_iald (pc' := 45) ok (dOf dX10_terms 26 rfl) rfl (fun x8 => ?_)
          refine J_istore_n (ls' := [some (.ref v0), some (.int v1), some (.int v2), some (.int x8)]) (pc' := 46) ok (dOf dX10_terms 27 rfl) rfl rfl (Nat.le_of_ble_eq_true rfl) rfl rfl ?_
          refine J_aload_n (pc' := 47) ok (dOf dX10_terms 28 rfl) rfl rfl rfl ?_
          refine J_getR (ci := 10) (kf := 1) (C := RX10) (T := TX10) (N := 14) (pc' := 50) ok (dOf dX10_terms 29 rfl) rfl (by decide) rfl (by decide) win_10 wfl_X10_16 (fun a9 => ?_)
          refine J_iload_n (pc' := 51) ok (dOf dX10_terms 30 rfl) rfl rfl rfl ?_
          refine J_iload_n (pc' := 52) ok (dOf dX10_terms 31 rfl) rfl rfl rfl ?_
          refine J_iast (pc' := 53) ok (dOf dX10_terms 32 rfl) rfl (fun h10 _ => ?_)
          refine J_aload_n (pc' := 54) ok (dOf dX10_terms 33 rfl) rfl rfl rfl ?_
          refine J_iload_n (pc' := 55) ok (dOf dX10_terms 34 rfl) rfl rfl rfl ?_
          refine J_callVi (k2 := kSp_accept) (ci := 10) (T := TX10) (N := 14) (as := [.int x8]) (pc' := 58) ok (dOf dX10_terms 35 rfl) rfl (cw_Sp_accept (by decide) (by decide)) wml_X10_91 winst_X10_accept wsel_X10_accept rfl ⟨Nat.le_refl 0, Nat.le_refl 0⟩ (Nat.le_of_ble_eq_true rfl) rfl (fun _ _ hf => t_Sp_accept hf) (fun x12 h11 => ?_)
          exact J_ireturn ok (dOf dX10_terms 36 rfl) rfl (Eq.refl 0) (Nat.le_refl 0)
        · exact Sp_terms_j33_J ok v0 v1 v2 h
    · exact Sp_terms_j9_J ok v0 v1 v2 h
-- X9_hasRoomForFive
abbrev kTape_hasRoomForFive : Cd := (yX9_hasRoomForFive, cX9_hasRoomForFive, 1, (some .boolean), 0, 0)
theorem dX9_hasRoomForFive : dcheck cX9_hasRoomForFive [(0, .aload_n 0, 1), (1, .getfield 19, 3), (4, .bipush 20, 2), (6, .iadd, 1), (7, .sipush 400, 3), (10, .if_icmp .gt 7, 3), (13, .iconst 1, 1), (14, .goto 4, 3), (17, .iconst 0, 1), (18, .ireturn, 1)] = true := by decide +kernel
theorem cw_Tape_hasRoomForFive {k : Cd} (h1 : kTape_hasRoomForFive.2.2.2.2.1 + 1 ≤ k.2.2.2.2.1) (h2 : 8 + (kTape_hasRoomForFive.2.2.1 + 11) + kTape_hasRoomForFive.2.2.2.2.2 ≤ k.2.2.2.2.2) : Cw k kTape_hasRoomForFive 0 := ⟨wcode_X9_hasRoomForFive, wini_SplitProgram_Tape, ⟨by decide, by decide, by decide +kernel⟩, h1, h2⟩
def Tape_hasRoomForFive_j18 (v0 : Nat) (t0 : Int32) (h : AHeap) : Option (Int32 × AHeap) :=
  (bz t0).bind fun z => some (z, h)
theorem Tape_hasRoomForFive_j18_J {E : JE} {l : Launch} {G : GX} {v : Int32} {h' : AHeap} (ok : JOK E l G kTape_hasRoomForFive 0 0 (some (.int v)) h') (v0 : Nat) (t0 : Int32) (h : AHeap) : J E kTape_hasRoomForFive (Tape_hasRoomForFive_j18 v0 t0 h) (fun z => z = (v, h')) 18 [some (.ref v0)] [.int t0] h 0 0 := by
  unfold Tape_hasRoomForFive_j18
  exact J_zreturn ok (dOf dX9_hasRoomForFive 9 rfl) rfl (Eq.refl 0) (Nat.le_refl 0)
def Tape_hasRoomForFive (v0 : Nat) (h : AHeap) : Option (Int32 × AHeap) :=
  (gfI h v0 9 1).bind fun x1 => (if 400 < (x1 + 20) then Tape_hasRoomForFive_j18 v0 0 h else Tape_hasRoomForFive_j18 v0 1 h)
theorem t_Tape_hasRoomForFive {l : Launch} {G : GX} {v0 : Nat} {h : AHeap} {v : Int32} {h1 : AHeap} (hf : Tape_hasRoomForFive v0 h = some (v, h1)) : CT l G kTape_hasRoomForFive 0 0 [.ref v0] h (some (.int v)) h1 := by
  refine CT_of (ls := [some (.ref v0)]) (Z := fun z => z = (v, h1)) (by decide +kernel) (Nat.le_of_ble_eq_true rfl) hf rfl ⟨rfl, trivial⟩ (fun E ok => ?_)
  unfold Tape_hasRoomForFive
  refine J_aload_n (pc' := 1) ok (dOf dX9_hasRoomForFive 0 rfl) rfl rfl rfl ?_
  refine J_getI (ci := 9) (kf := 1) (C := RX9) (T := TX9) (N := 6) (pc' := 4) ok (dOf dX9_hasRoomForFive 1 rfl) rfl (by decide) rfl (by decide) win_9 wfl_X9_19 (fun x1 => ?_)
  refine J_bipush (v := 20) (pc' := 6) ok (dOf dX9_hasRoomForFive 2 rfl) rfl (by decide) ?_
  refine J_iadd (pc' := 7) ok (dOf dX9_hasRoomForFive 3 rfl) rfl ?_
  refine J_sipush (v := 400) (pc' := 10) ok (dOf dX9_hasRoomForFive 4 rfl) rfl (by decide) ?_
  refine J_icmp_gt (tgt := 17) (pc' := 13) ok (dOf dX9_hasRoomForFive 5 rfl) rfl (by decide) ?_ ?_
  · refine J_iconst (v := 0) (pc' := 18) ok (dOf dX9_hasRoomForFive 8 rfl) rfl (by decide) ?_
    exact Tape_hasRoomForFive_j18_J ok v0 0 h
  · refine J_iconst (v := 1) (pc' := 14) ok (dOf dX9_hasRoomForFive 6 rfl) rfl (by decide) ?_
    refine J_goto (tgt := 18) ok (dOf dX9_hasRoomForFive 7 rfl) (by decide) ?_
    exact Tape_hasRoomForFive_j18_J ok v0 1 h
-- X9_append
abbrev kTape_append : Cd := (yX9_append, cX9_append, 3, none, 0, 0)
theorem dX9_append : dcheck cX9_append [(0, .iconst 0, 1), (1, .istore_n 2, 1), (2, .iload_n 2, 1), (3, .iconst 4, 1), (4, .if_icmp .ge 48, 3), (7, .aload_n 0, 1), (8, .getfield 19, 3), (11, .sipush 400, 3), (14, .if_icmp .ge 38, 3), (17, .aload_n 0, 1), (18, .getfield 11, 3), (21, .aload_n 0, 1), (22, .getfield 19, 3), (25, .iload_n 1, 1), (26, .bipush 24, 2), (28, .bipush 8, 2), (30, .iload_n 2, 1), (31, .imul, 1), (32, .isub, 1), (33, .ishr, 1), (34, .i2b, 1), (35, .bastore, 1), (36, .aload_n 0, 1), (37, .dup, 1), (38, .getfield 19, 3), (41, .iconst 1, 1), (42, .iadd, 1), (43, .putfield 19, 3), (46, .iinc 2 1, 3), (49, .goto (-47), 3), (52, .return_, 1)] = true := by decide +kernel
theorem cw_Tape_append {k : Cd} (h1 : kTape_append.2.2.2.2.1 + 1 ≤ k.2.2.2.2.1) (h2 : 8 + (kTape_append.2.2.1 + 11) + kTape_append.2.2.2.2.2 ≤ k.2.2.2.2.2) : Cw k kTape_append 1 := ⟨wcode_X9_append, wini_SplitProgram_Tape, ⟨by decide, by decide, by decide +kernel⟩, h1, h2⟩
def Tape_append_b2 (v0 : Nat) (v1 : Int32) (s : Int32 × AHeap) : Option ((Int32 × AHeap) ⊕ ((Int32 × AHeap))) :=
  (if 4 ≤ s.1 then some (Sum.inr (s.1, s.2)) else (gfI s.2 v0 9 1).bind fun x1 => (if 400 ≤ x1 then some (Sum.inr (s.1, s.2)) else (gfR s.2 v0 9 0).bind fun a2 => (gfI s.2 v0 9 1).bind fun x3 => (ast 2 s.2 a2 x3 ((v1 >>> ((24 - (8 * s.1)) &&& 31)).toInt8.toInt32)).bind fun h4 => (gfI h4 v0 9 1).bind fun x5 => (pfV h4 v0 9 1 (.int (x5 + 1))).bind fun h6 => some (Sum.inl (s.1 + 1, h6))))
theorem Tape_append_b2_J {E : JE} {l : Launch} {G : GX} {r : Option Value} {h' : AHeap} (ok : JOK E l G kTape_append 0 0 r h') (v0 : Nat) (v1 : Int32) {Y : (Int32 × AHeap) ⊕ ((Int32 × AHeap)) → Prop} (k1 : ∀ s' : Int32 × AHeap, Y (.inl s') → JW E kTape_append 2 [some (.ref v0), some (.int v1), some (.int s'.1)] [] s'.2 0 0) (kx52 : ∀ q : Int32 × AHeap, Y (.inr q) → JW E kTape_append 52 [some (.ref v0), some (.int v1), some (.int q.1)] [] q.2 0 0) (s : Int32 × AHeap) : J E kTape_append (Tape_append_b2 v0 v1 s) Y 2 [some (.ref v0), some (.int v1), some (.int s.1)] [] s.2 0 0 := by
  unfold Tape_append_b2
  refine J_iload_n (pc' := 3) ok (dOf dX9_append 2 rfl) rfl rfl rfl ?_
  refine J_iconst (v := 4) (pc' := 4) ok (dOf dX9_append 3 rfl) rfl (by decide) ?_
  refine J_icmp_ge (tgt := 52) (pc' := 7) ok (dOf dX9_append 4 rfl) rfl (by decide) ?_ ?_
  · exact J_fin (kx52 (s.1, s.2))
  · refine J_aload_n (pc' := 8) ok (dOf dX9_append 5 rfl) rfl rfl rfl ?_
    refine J_getI (ci := 9) (kf := 1) (C := RX9) (T := TX9) (N := 6) (pc' := 11) ok (dOf dX9_append 6 rfl) rfl (by decide) rfl (by decide) win_9 wfl_X9_19 (fun x1 => ?_)
    refine J_sipush (v := 400) (pc' := 14) ok (dOf dX9_append 7 rfl) rfl (by decide) ?_
    refine J_icmp_ge (tgt := 52) (pc' := 17) ok (dOf dX9_append 8 rfl) rfl (by decide) ?_ ?_
    · exact J_fin (kx52 (s.1, s.2))
    · refine J_aload_n (pc' := 18) ok (dOf dX9_append 9 rfl) rfl rfl rfl ?_
      refine J_getR (ci := 9) (kf := 0) (C := RX9) (T := TX9) (N := 6) (pc' := 21) ok (dOf dX9_append 10 rfl) rfl (by decide) rfl (by decide) win_9 wfl_X9_11 (fun a2 => ?_)
      refine J_aload_n (pc' := 22) ok (dOf dX9_append 11 rfl) rfl rfl rfl ?_
      refine J_getI (ci := 9) (kf := 1) (C := RX9) (T := TX9) (N := 6) (pc' := 25) ok (dOf dX9_append 12 rfl) rfl (by decide) rfl (by decide) win_9 wfl_X9_19 (fun x3 => ?_)
      refine J_iload_n (pc' := 26) ok (dOf dX9_append 13 rfl) rfl rfl rfl ?_
      refine J_bipush (v := 24) (pc' := 28) ok (dOf dX9_append 14 rfl) rfl (by decide) ?_
      refine J_bipush (v := 8) (pc' := 30) ok (dOf dX9_append 15 rfl) rfl (by decide) ?_
      refine J_iload_n (pc' := 31) ok (dOf dX9_append 16 rfl) rfl rfl rfl ?_
      refine J_imul (pc' := 32) ok (dOf dX9_append 17 rfl) rfl ?_
      refine J_isub (pc' := 33) ok (dOf dX9_append 18 rfl) rfl ?_
      refine J_ishr (pc' := 34) ok (dOf dX9_append 19 rfl) rfl ?_
      refine J_i2b (pc' := 35) ok (dOf dX9_append 20 rfl) rfl ?_
      refine J_bast (pc' := 36) ok (dOf dX9_append 21 rfl) rfl (fun h4 _ => ?_)
      refine J_aload_n (pc' := 37) ok (dOf dX9_append 22 rfl) rfl rfl rfl ?_
      refine J_dup (pc' := 38) ok (dOf dX9_append 23 rfl) rfl rfl ?_
      refine J_getI (ci := 9) (kf := 1) (C := RX9) (T := TX9) (N := 6) (pc' := 41) ok (dOf dX9_append 24 rfl) rfl (by decide) rfl (by decide) win_9 wfl_X9_19 (fun x5 => ?_)
      refine J_iconst (v := 1) (pc' := 42) ok (dOf dX9_append 25 rfl) rfl (by decide) ?_
      refine J_iadd (pc' := 43) ok (dOf dX9_append 26 rfl) rfl ?_
      refine J_putI (ci := 9) (kf := 1) (C := RX9) (T := TX9) (N := 6) (pc' := 46) ok tyX9 (dOf dX9_append 27 rfl) rfl rfl (by decide) win_9 tyX9_ok nmX9 rfl rfl wfl_X9_19 (fun h6 _ => ?_)
      refine J_iinc (v := s.1 + 1) (ls' := [some (.ref v0), some (.int v1), some (.int (s.1 + 1))]) (pc' := 49) ok (dOf dX9_append 28 rfl) rfl rfl (by rfl) (Nat.le_of_ble_eq_true rfl) rfl rfl ?_
      refine J_goto (tgt := 2) ok (dOf dX9_append 29 rfl) (by decide) ?_
      exact J_fin (k1 (s.1 + 1, h6))
def Tape_append_j52 (v0 : Nat) (v1 : Int32) (v2 : Int32) (h : AHeap) : Option (Unit × AHeap) :=
  some ((), h)
theorem Tape_append_j52_J {E : JE} {l : Launch} {G : GX} {h' : AHeap} (ok : JOK E l G kTape_append 0 0 none h') (v0 : Nat) (v1 : Int32) (v2 : Int32) (h : AHeap) : J E kTape_append (Tape_append_j52 v0 v1 v2 h) (fun z => z = ((), h')) 52 [some (.ref v0), some (.int v1), some (.int v2)] [] h 0 0 := by
  unfold Tape_append_j52
  exact J_vreturn ok (dOf dX9_append 30 rfl) rfl (Eq.refl 0) (Nat.le_refl 0)
def Tape_append (v0 : Nat) (v1 : Int32) (h : AHeap) : Option (Unit × AHeap) :=
  (iter (Tape_append_b2 v0 v1) Lmax (0, h)).bind (fun (q2 : Int32 × AHeap) => Tape_append_j52 v0 v1 q2.1 q2.2)
theorem t_Tape_append {l : Launch} {G : GX} {v0 : Nat} {v1 : Int32} {h : AHeap} {h1 : AHeap} (hf : Tape_append v0 v1 h = some ((), h1)) : CT l G kTape_append 0 0 [.ref v0, .int v1] h none h1 := by
  refine CT_of (ls := [some (.ref v0), some (.int v1), none]) (Z := fun z => z = ((), h1)) (by decide +kernel) (Nat.le_of_ble_eq_true rfl) hf rfl ⟨rfl, rfl, trivial⟩ (fun E ok => ?_)
  unfold Tape_append
  refine J_iconst (v := 0) (pc' := 1) ok (dOf dX9_append 0 rfl) rfl (by decide) ?_
  refine J_istore_n (ls' := [some (.ref v0), some (.int v1), some (.int 0)]) (pc' := 2) ok (dOf dX9_append 1 rfl) rfl rfl (Nat.le_of_ble_eq_true rfl) rfl rfl ?_
  refine J_iter (lf := fun z2 => [some (.ref v0), some (.int v1), some (.int z2.1)]) (sf := fun _ => []) (hf := fun z2 => z2.2) (px := (fun (q2 : Int32 × AHeap) => 52)) (lx := (fun (q2 : Int32 × AHeap) => [some (.ref v0), some (.int v1), some (.int q2.1)])) (sx := (fun (q2 : Int32 × AHeap) => [])) (hx := (fun (q2 : Int32 × AHeap) => q2.2)) (fun Y2 z2 m1 m2 => Tape_append_b2_J ok v0 v1 m1 m2 z2) (fun q2 => ?_) Lmax _
  exact Tape_append_j52_J ok v0 v1 q2.1 q2.2
-- X10_feed
abbrev kSp_feed : Cd := (yX10_feed, cX10_feed, 6, (some .int), 1, 22)
theorem dX10_feed : dcheck cX10_feed [(0, .aload_n 0, 1), (1, .getfield 30, 3), (4, .invokevirtual 94, 3), (7, .ifCond .ne 5, 3), (10, .iconst (-1), 1), (11, .ireturn, 1), (12, .aload_n 0, 1), (13, .getfield 30, 3), (16, .iload_n 1, 1), (17, .invokevirtual 98, 3), (20, .aload_n 0, 1), (21, .getfield 30, 3), (24, .iload_n 2, 1), (25, .invokevirtual 98, 3), (28, .aload_n 0, 1), (29, .getfield 30, 3), (32, .iload_n 3, 1), (33, .invokevirtual 98, 3), (36, .aload_n 0, 1), (37, .getfield 30, 3), (40, .iload 4, 2), (42, .invokevirtual 98, 3), (45, .aload_n 0, 1), (46, .getfield 30, 3), (49, .iload 5, 2), (51, .invokevirtual 98, 3), (54, .aload_n 0, 1), (55, .getfield 30, 3), (58, .getfield 101, 3), (61, .ireturn, 1)] = true := by decide +kernel
theorem cw_Sp_feed {k : Cd} (h1 : kSp_feed.2.2.2.2.1 + 1 ≤ k.2.2.2.2.1) (h2 : 8 + (kSp_feed.2.2.1 + 11) + kSp_feed.2.2.2.2.2 ≤ k.2.2.2.2.2) : Cw k kSp_feed 5 := ⟨wcode_X10_feed, wini_SplitProgram, ⟨by decide, by decide, by decide +kernel⟩, h1, h2⟩
def Sp_feed (v0 : Nat) (v1 : Int32) (v2 : Int32) (v3 : Int32) (v4 : Int32) (v5 : Int32) (h : AHeap) : Option (Int32 × AHeap) :=
  (gfR h v0 10 3).bind fun a1 => (chk h a1 9).bind fun _ => bnd2 (Tape_hasRoomForFive a1 h) fun x3 h2 => (if ¬ x3 = 0 then (gfR h2 v0 10 3).bind fun a4 => (chk h2 a4 9).bind fun _ => bnd2 (Tape_append a4 v1 h2) fun _ h5 => (gfR h5 v0 10 3).bind fun a6 => (chk h5 a6 9).bind fun _ => bnd2 (Tape_append a6 v2 h5) fun _ h7 => (gfR h7 v0 10 3).bind fun a8 => (chk h7 a8 9).bind fun _ => bnd2 (Tape_append a8 v3 h7) fun _ h9 => (gfR h9 v0 10 3).bind fun a10 => (chk h9 a10 9).bind fun _ => bnd2 (Tape_append a10 v4 h9) fun _ h11 => (gfR h11 v0 10 3).bind fun a12 => (chk h11 a12 9).bind fun _ => bnd2 (Tape_append a12 v5 h11) fun _ h13 => (gfR h13 v0 10 3).bind fun a14 => (gfI h13 a14 9 1).bind fun x15 => some (x15, h13) else some ((-1), h2))
theorem t_Sp_feed {l : Launch} {G : GX} {v0 : Nat} {v1 : Int32} {v2 : Int32} {v3 : Int32} {v4 : Int32} {v5 : Int32} {h : AHeap} {v : Int32} {h1 : AHeap} (hf : Sp_feed v0 v1 v2 v3 v4 v5 h = some (v, h1)) : CT l G kSp_feed 0 0 [.ref v0, .int v1, .int v2, .int v3, .int v4, .int v5] h (some (.int v)) h1 := by
  refine CT_of (ls := [some (.ref v0), some (.int v1), some (.int v2), some (.int v3), some (.int v4), some (.int v5)]) (Z := fun z => z = (v, h1)) (by decide +kernel) (Nat.le_of_ble_eq_true rfl) hf rfl ⟨rfl, rfl, rfl, rfl, rfl, rfl, trivial⟩ (fun E ok => ?_)
  unfold Sp_feed
  refine J_aload_n (pc' := 1) ok (dOf dX10_feed 0 rfl) rfl rfl rfl ?_
  refine J_getR (ci := 10) (kf := 3) (C := RX10) (T := TX10) (N := 14) (pc' := 4) ok (dOf dX10_feed 1 rfl) rfl (by decide) rfl (by decide) win_10 wfl_X10_30 (fun a1 => ?_)
  refine J_callVi (k2 := kTape_hasRoomForFive) (ci := 9) (T := TX9) (N := 6) (as := []) (pc' := 7) ok (dOf dX10_feed 2 rfl) rfl (cw_Tape_hasRoomForFive (by decide) (by decide)) wml_X10_94 winst_X9_hasRoomForFive wsel_X9_hasRoomForFive rfl ⟨Nat.le_refl 0, Nat.le_refl 0⟩ (Nat.le_of_ble_eq_true rfl) rfl (fun _ _ hf => t_Tape_hasRoomForFive hf) (fun x3 h2 => ?_)
  refine J_if_ne (tgt := 12) (pc' := 10) ok (dOf dX10_feed 3 rfl) rfl (by decide) ?_ ?_
  · refine J_aload_n (pc' := 13) ok (dOf dX10_feed 6 rfl) rfl rfl rfl ?_
    refine J_getR (ci := 10) (kf := 3) (C := RX10) (T := TX10) (N := 14) (pc' := 16) ok (dOf dX10_feed 7 rfl) rfl (by decide) rfl (by decide) win_10 wfl_X10_30 (fun a4 => ?_)
    refine J_iload_n (pc' := 17) ok (dOf dX10_feed 8 rfl) rfl rfl rfl ?_
    refine J_callVv (k2 := kTape_append) (ci := 9) (T := TX9) (N := 6) (as := [.int v1]) (pc' := 20) ok (dOf dX10_feed 9 rfl) rfl (cw_Tape_append (by decide) (by decide)) wml_X10_98 winst_X9_append wsel_X9_append rfl ⟨Nat.le_refl 0, Nat.le_refl 0⟩ (Nat.le_of_ble_eq_true rfl) rfl (fun _ _ hf => t_Tape_append hf) (fun _ h5 => ?_)
    refine J_aload_n (pc' := 21) ok (dOf dX10_feed 10 rfl) rfl rfl rfl ?_
    refine J_getR (ci := 10) (kf := 3) (C := RX10) (T := TX10) (N := 14) (pc' := 24) ok (dOf dX10_feed 11 rfl) rfl (by decide) rfl (by decide) win_10 wfl_X10_30 (fun a6 => ?_)
    refine J_iload_n (pc' := 25) ok (dOf dX10_feed 12 rfl) rfl rfl rfl ?_
    refine J_callVv (k2 := kTape_append) (ci := 9) (T := TX9) (N := 6) (as := [.int v2]) (pc' := 28) ok (dOf dX10_feed 13 rfl) rfl (cw_Tape_append (by decide) (by decide)) wml_X10_98 winst_X9_append wsel_X9_append rfl ⟨Nat.le_refl 0, Nat.le_refl 0⟩ (Nat.le_of_ble_eq_true rfl) rfl (fun _ _ hf => t_Tape_append hf) (fun _ h7 => ?_)
    refine J_aload_n (pc' := 29) ok (dOf dX10_feed 14 rfl) rfl rfl rfl ?_
    refine J_getR (ci := 10) (kf := 3) (C := RX10) (T := TX10) (N := 14) (pc' := 32) ok (dOf dX10_feed 15 rfl) rfl (by decide) rfl (by decide) win_10 wfl_X10_30 (fun a8 => ?_)
    refine J_iload_n (pc' := 33) ok (dOf dX10_feed 16 rfl) rfl rfl rfl ?_
    refine J_callVv (k2 := kTape_append) (ci := 9) (T := TX9) (N := 6) (as := [.int v3]) (pc' := 36) ok (dOf dX10_feed 17 rfl) rfl (cw_Tape_append (by decide) (by decide)) wml_X10_98 winst_X9_append wsel_X9_append rfl ⟨Nat.le_refl 0, Nat.le_refl 0⟩ (Nat.le_of_ble_eq_true rfl) rfl (fun _ _ hf => t_Tape_append hf) (fun _ h9 => ?_)
    refine J_aload_n (pc' := 37) ok (dOf dX10_feed 18 rfl) rfl rfl rfl ?_
    refine J_getR (ci := 10) (kf := 3) (C := RX10) (T := TX10) (N := 14) (pc' := 40) ok (dOf dX10_feed 19 rfl) rfl (by decide) rfl (by decide) win_10 wfl_X10_30 (fun a10 => ?_)
    refine J_iload (pc' := 42) ok (dOf dX10_feed 20 rfl) rfl rfl ?_
    refine J_callVv (k2 := kTape_append) (ci := 9) (T := TX9) (N := 6) (as := [.int v4]) (pc' := 45) ok (dOf dX10_feed 21 rfl) rfl (cw_Tape_append (by decide) (by decide)) wml_X10_98 winst_X9_append wsel_X9_append rfl ⟨Nat.le_refl 0, Nat.le_refl 0⟩ (Nat.le_of_ble_eq_true rfl) rfl (fun _ _ hf => t_Tape_append hf) (fun _ h11 => ?_)
    refine J_aload_n (pc' := 46) ok (dOf dX10_feed 22 rfl) rfl rfl rfl ?_
    refine J_getR (ci := 10) (kf := 3) (C := RX10) (T := TX10) (N := 14) (pc' := 49) ok (dOf dX10_feed 23 rfl) rfl (by decide) rfl (by decide) win_10 wfl_X10_30 (fun a12 => ?_)
    refine J_iload (pc' := 51) ok (dOf dX10_feed 24 rfl) rfl rfl ?_
    refine J_callVv (k2 := kTape_append) (ci := 9) (T := TX9) (N := 6) (as := [.int v5]) (pc' := 54) ok (dOf dX10_feed 25 rfl) rfl (cw_Tape_append (by decide) (by decide)) wml_X10_98 winst_X9_append wsel_X9_append rfl ⟨Nat.le_refl 0, Nat.le_refl 0⟩ (Nat.le_of_ble_eq_true rfl) rfl (fun _ _ hf => t_Tape_append hf) (fun _ h13 => ?_)
    refine J_aload_n (pc' := 55) ok (dOf dX10_feed 26 rfl) rfl rfl rfl ?_
    refine J_getR (ci := 10) (kf := 3) (C := RX10) (T := TX10) (N := 14) (pc' := 58) ok (dOf dX10_feed 27 rfl) rfl (by decide) rfl (by decide) win_10 wfl_X10_30 (fun a14 => ?_)
    refine J_getI (ci := 9) (kf := 1) (C := RX9) (T := TX9) (N := 6) (pc' := 61) ok (dOf dX10_feed 28 rfl) rfl (by decide) rfl (by decide) win_9 wfl_X10_101 (fun x15 => ?_)
    exact J_ireturn ok (dOf dX10_feed 29 rfl) rfl (Eq.refl 0) (Nat.le_refl 0)
  · refine J_iconst (v := (-1)) (pc' := 11) ok (dOf dX10_feed 4 rfl) rfl (by decide) ?_
    exact J_ireturn ok (dOf dX10_feed 5 rfl) rfl (Eq.refl 0) (Nat.le_refl 0)
-- X10_end
abbrev kSp_end : Cd := (yX10_end, cX10_end, 2, (some .int), 0, 0)
theorem dX10_end : dcheck cX10_end [(0, .iload_n 1, 1), (1, .ifCond .lt 14, 3), (4, .iload_n 1, 1), (5, .aload_n 0, 1), (6, .getfield 30, 3), (9, .getfield 101, 3), (12, .if_icmp .le 5, 3), (15, .iconst (-1), 1), (16, .ireturn, 1), (17, .aload_n 0, 1), (18, .getfield 30, 3), (21, .iload_n 1, 1), (22, .putfield 101, 3), (25, .iload_n 1, 1), (26, .ireturn, 1)] = true := by decide +kernel
theorem cw_Sp_end {k : Cd} (h1 : kSp_end.2.2.2.2.1 + 1 ≤ k.2.2.2.2.1) (h2 : 8 + (kSp_end.2.2.1 + 11) + kSp_end.2.2.2.2.2 ≤ k.2.2.2.2.2) : Cw k kSp_end 1 := ⟨wcode_X10_end, wini_SplitProgram, ⟨by decide, by decide, by decide +kernel⟩, h1, h2⟩
def Sp_end_j15 (v0 : Nat) (v1 : Int32) (h : AHeap) : Option (Int32 × AHeap) :=
  some ((-1), h)
theorem Sp_end_j15_J {E : JE} {l : Launch} {G : GX} {v : Int32} {h' : AHeap} (ok : JOK E l G kSp_end 0 0 (some (.int v)) h') (v0 : Nat) (v1 : Int32) (h : AHeap) : J E kSp_end (Sp_end_j15 v0 v1 h) (fun z => z = (v, h')) 15 [some (.ref v0), some (.int v1)] [] h 0 0 := by
  unfold Sp_end_j15
  refine J_iconst (v := (-1)) (pc' := 16) ok (dOf dX10_end 7 rfl) rfl (by decide) ?_
  exact J_ireturn ok (dOf dX10_end 8 rfl) rfl (Eq.refl 0) (Nat.le_refl 0)
def Sp_end (v0 : Nat) (v1 : Int32) (h : AHeap) : Option (Int32 × AHeap) :=
  (if v1 < 0 then Sp_end_j15 v0 v1 h else (gfR h v0 10 3).bind fun a1 => (gfI h a1 9 1).bind fun x2 => (if v1 ≤ x2 then (gfR h v0 10 3).bind fun a3 => (pfV h a3 9 1 (.int v1)).bind fun h4 => some (v1, h4) else Sp_end_j15 v0 v1 h))
theorem t_Sp_end {l : Launch} {G : GX} {v0 : Nat} {v1 : Int32} {h : AHeap} {v : Int32} {h1 : AHeap} (hf : Sp_end v0 v1 h = some (v, h1)) : CT l G kSp_end 0 0 [.ref v0, .int v1] h (some (.int v)) h1 := by
  refine CT_of (ls := [some (.ref v0), some (.int v1)]) (Z := fun z => z = (v, h1)) (by decide +kernel) (Nat.le_of_ble_eq_true rfl) hf rfl ⟨rfl, rfl, trivial⟩ (fun E ok => ?_)
  unfold Sp_end
  refine J_iload_n (pc' := 1) ok (dOf dX10_end 0 rfl) rfl rfl rfl ?_
  refine J_if_lt (tgt := 15) (pc' := 4) ok (dOf dX10_end 1 rfl) rfl (by decide) ?_ ?_
  · exact Sp_end_j15_J ok v0 v1 h
  · refine J_iload_n (pc' := 5) ok (dOf dX10_end 2 rfl) rfl rfl rfl ?_
    refine J_aload_n (pc' := 6) ok (dOf dX10_end 3 rfl) rfl rfl rfl ?_
    refine J_getR (ci := 10) (kf := 3) (C := RX10) (T := TX10) (N := 14) (pc' := 9) ok (dOf dX10_end 4 rfl) rfl (by decide) rfl (by decide) win_10 wfl_X10_30 (fun a1 => ?_)
    refine J_getI (ci := 9) (kf := 1) (C := RX9) (T := TX9) (N := 6) (pc' := 12) ok (dOf dX10_end 5 rfl) rfl (by decide) rfl (by decide) win_9 wfl_X10_101 (fun x2 => ?_)
    refine J_icmp_le (tgt := 17) (pc' := 15) ok (dOf dX10_end 6 rfl) rfl (by decide) ?_ ?_
    · refine J_aload_n (pc' := 18) ok (dOf dX10_end 9 rfl) rfl rfl rfl ?_
      refine J_getR (ci := 10) (kf := 3) (C := RX10) (T := TX10) (N := 14) (pc' := 21) ok (dOf dX10_end 10 rfl) rfl (by decide) rfl (by decide) win_10 wfl_X10_30 (fun a3 => ?_)
      refine J_iload_n (pc' := 22) ok (dOf dX10_end 11 rfl) rfl rfl rfl ?_
      refine J_putI (ci := 9) (kf := 1) (C := RX9) (T := TX9) (N := 6) (pc' := 25) ok tyX9 (dOf dX10_end 12 rfl) rfl rfl (by decide) win_9 tyX9_ok nmX9 rfl rfl wfl_X10_101 (fun h4 _ => ?_)
      refine J_iload_n (pc' := 26) ok (dOf dX10_end 13 rfl) rfl rfl rfl ?_
      exact J_ireturn ok (dOf dX10_end 14 rfl) rfl (Eq.refl 0) (Nat.le_refl 0)
    · exact Sp_end_j15_J ok v0 v1 h
-- J7_fill_53178
abbrev kJ7_fill : Cd := (yJ7_fill_53178, cJ7_fill_53178, 4, none, 0, 0)
theorem dJ7_fill_53178 : dcheck cJ7_fill_53178 [(0, .iconst 0, 1), (1, .istore_n 2, 1), (2, .aload_n 0, 1), (3, .arraylength, 1), (4, .istore_n 3, 1), (5, .iload_n 2, 1), (6, .iload_n 3, 1), (7, .if_icmp .ge 13, 3), (10, .aload_n 0, 1), (11, .iload_n 2, 1), (12, .iload_n 1, 1), (13, .iastore, 1), (14, .iinc 2 1, 3), (17, .goto (-12), 3), (20, .return_, 1)] = true := by decide +kernel
theorem cw_J7_fill {k : Cd} (h1 : kJ7_fill.2.2.2.2.1 + 1 ≤ k.2.2.2.2.1) (h2 : 8 + (kJ7_fill.2.2.1 + 11) + kJ7_fill.2.2.2.2.2 ≤ k.2.2.2.2.2) : Cw k kJ7_fill 2 := ⟨wcode_J7_fill_53178, wini_java_util_Arrays, ⟨by decide, by decide, by decide +kernel⟩, h1, h2⟩
def J7_fill_b5 (v0 : Nat) (v1 : Int32) (v3 : Int32) (s : Int32 × AHeap) : Option ((Int32 × AHeap) ⊕ ((Int32 × AHeap))) :=
  (if v3 ≤ s.1 then some (Sum.inr (s.1, s.2)) else (ast 0 s.2 v0 s.1 v1).bind fun h2 => some (Sum.inl (s.1 + 1, h2)))
theorem J7_fill_b5_J {E : JE} {l : Launch} {G : GX} {r : Option Value} {h' : AHeap} (ok : JOK E l G kJ7_fill 0 0 r h') (v0 : Nat) (v1 : Int32) (v3 : Int32) {Y : (Int32 × AHeap) ⊕ ((Int32 × AHeap)) → Prop} (k1 : ∀ s' : Int32 × AHeap, Y (.inl s') → JW E kJ7_fill 5 [some (.ref v0), some (.int v1), some (.int s'.1), some (.int v3)] [] s'.2 0 0) (kx20 : ∀ q : Int32 × AHeap, Y (.inr q) → JW E kJ7_fill 20 [some (.ref v0), some (.int v1), some (.int q.1), some (.int v3)] [] q.2 0 0) (s : Int32 × AHeap) : J E kJ7_fill (J7_fill_b5 v0 v1 v3 s) Y 5 [some (.ref v0), some (.int v1), some (.int s.1), some (.int v3)] [] s.2 0 0 := by
  unfold J7_fill_b5
  refine J_iload_n (pc' := 6) ok (dOf dJ7_fill_53178 5 rfl) rfl rfl rfl ?_
  refine J_iload_n (pc' := 7) ok (dOf dJ7_fill_53178 6 rfl) rfl rfl rfl ?_
  refine J_icmp_ge (tgt := 20) (pc' := 10) ok (dOf dJ7_fill_53178 7 rfl) rfl (by decide) ?_ ?_
  · exact J_fin (kx20 (s.1, s.2))
  · refine J_aload_n (pc' := 11) ok (dOf dJ7_fill_53178 8 rfl) rfl rfl rfl ?_
    refine J_iload_n (pc' := 12) ok (dOf dJ7_fill_53178 9 rfl) rfl rfl rfl ?_
    refine J_iload_n (pc' := 13) ok (dOf dJ7_fill_53178 10 rfl) rfl rfl rfl ?_
    refine J_iast (pc' := 14) ok (dOf dJ7_fill_53178 11 rfl) rfl (fun h2 _ => ?_)
    refine J_iinc (v := s.1 + 1) (ls' := [some (.ref v0), some (.int v1), some (.int (s.1 + 1)), some (.int v3)]) (pc' := 17) ok (dOf dJ7_fill_53178 12 rfl) rfl rfl (by rfl) (Nat.le_of_ble_eq_true rfl) rfl rfl ?_
    refine J_goto (tgt := 5) ok (dOf dJ7_fill_53178 13 rfl) (by decide) ?_
    exact J_fin (k1 (s.1 + 1, h2))
def J7_fill_j20 (v0 : Nat) (v1 : Int32) (v2 : Int32) (v3 : Int32) (h : AHeap) : Option (Unit × AHeap) :=
  some ((), h)
theorem J7_fill_j20_J {E : JE} {l : Launch} {G : GX} {h' : AHeap} (ok : JOK E l G kJ7_fill 0 0 none h') (v0 : Nat) (v1 : Int32) (v2 : Int32) (v3 : Int32) (h : AHeap) : J E kJ7_fill (J7_fill_j20 v0 v1 v2 v3 h) (fun z => z = ((), h')) 20 [some (.ref v0), some (.int v1), some (.int v2), some (.int v3)] [] h 0 0 := by
  unfold J7_fill_j20
  exact J_vreturn ok (dOf dJ7_fill_53178 14 rfl) rfl (Eq.refl 0) (Nat.le_refl 0)
def J7_fill (v0 : Nat) (v1 : Int32) (h : AHeap) : Option (Unit × AHeap) :=
  (alen h v0).bind fun x1 => (iter (J7_fill_b5 v0 v1 x1) Lmax (0, h)).bind (fun (q5 : Int32 × AHeap) => J7_fill_j20 v0 v1 q5.1 x1 q5.2)
theorem t_J7_fill {l : Launch} {G : GX} {v0 : Nat} {v1 : Int32} {h : AHeap} {h1 : AHeap} (hf : J7_fill v0 v1 h = some ((), h1)) : CT l G kJ7_fill 0 0 [.ref v0, .int v1] h none h1 := by
  refine CT_of (ls := [some (.ref v0), some (.int v1), none, none]) (Z := fun z => z = ((), h1)) (by decide +kernel) (Nat.le_of_ble_eq_true rfl) hf rfl ⟨rfl, rfl, trivial⟩ (fun E ok => ?_)
  unfold J7_fill
  refine J_iconst (v := 0) (pc' := 1) ok (dOf dJ7_fill_53178 0 rfl) rfl (by decide) ?_
  refine J_istore_n (ls' := [some (.ref v0), some (.int v1), some (.int 0), none]) (pc' := 2) ok (dOf dJ7_fill_53178 1 rfl) rfl rfl (Nat.le_of_ble_eq_true rfl) rfl rfl ?_
  refine J_aload_n (pc' := 3) ok (dOf dJ7_fill_53178 2 rfl) rfl rfl rfl ?_
  refine J_alen (pc' := 4) ok (dOf dJ7_fill_53178 3 rfl) rfl (fun x1 => ?_)
  refine J_istore_n (ls' := [some (.ref v0), some (.int v1), some (.int 0), some (.int x1)]) (pc' := 5) ok (dOf dJ7_fill_53178 4 rfl) rfl rfl (Nat.le_of_ble_eq_true rfl) rfl rfl ?_
  refine J_iter (lf := fun z5 => [some (.ref v0), some (.int v1), some (.int z5.1), some (.int x1)]) (sf := fun _ => []) (hf := fun z5 => z5.2) (px := (fun (q5 : Int32 × AHeap) => 20)) (lx := (fun (q5 : Int32 × AHeap) => [some (.ref v0), some (.int v1), some (.int q5.1), some (.int x1)])) (sx := (fun (q5 : Int32 × AHeap) => [])) (hx := (fun (q5 : Int32 × AHeap) => q5.2)) (fun Y2 z5 m1 m2 => J7_fill_b5_J ok v0 v1 x1 m1 m2 z5) (fun q5 => ?_) Lmax _
  exact J7_fill_j20_J ok v0 v1 q5.1 x1 q5.2
-- X6_wipe
abbrev kProg_wipe : Cd := (yX6_wipe, cX6_wipe, 1, none, 1, 23)
theorem dX6_wipe : dcheck cX6_wipe [(0, .aload_n 0, 1), (1, .iconst 0, 1), (2, .putfield 36, 3), (5, .aload_n 0, 1), (6, .iconst 0, 1), (7, .putfield 40, 3), (10, .aload_n 0, 1), (11, .iconst 0, 1), (12, .putfield 43, 3), (15, .aload_n 0, 1), (16, .getfield 9, 3), (19, .iconst 0, 1), (20, .invokestatic 30, 3), (23, .aload_n 0, 1), (24, .getfield 15, 3), (27, .iconst 0, 1), (28, .invokestatic 30, 3), (31, .aload_n 0, 1), (32, .getfield 18, 3), (35, .iconst 0, 1), (36, .invokestatic 30, 3), (39, .aload_n 0, 1), (40, .getfield 21, 3), (43, .iconst (-1), 1), (44, .invokestatic 30, 3), (47, .aload_n 0, 1), (48, .getfield 24, 3), (51, .iconst 0, 1), (52, .invokestatic 30, 3), (55, .aload_n 0, 1), (56, .getfield 27, 3), (59, .iconst 0, 1), (60, .invokestatic 30, 3), (63, .return_, 1)] = true := by decide +kernel
theorem cw_Prog_wipe {k : Cd} (h1 : kProg_wipe.2.2.2.2.1 + 1 ≤ k.2.2.2.2.1) (h2 : 8 + (kProg_wipe.2.2.1 + 11) + kProg_wipe.2.2.2.2.2 ≤ k.2.2.2.2.2) : Cw k kProg_wipe 0 := ⟨wcode_X6_wipe, wini_SplitProgram_Program, ⟨by decide, by decide, by decide +kernel⟩, h1, h2⟩
def Prog_wipe (v0 : Nat) (h : AHeap) : Option (Unit × AHeap) :=
  (pfV h v0 6 0 (.int 0)).bind fun h1 => (pfV h1 v0 6 1 (.int 0)).bind fun h2 => (pfV h2 v0 6 2 (.int 0)).bind fun h3 => (gfR h3 v0 6 3).bind fun a4 => bnd2 (J7_fill a4 0 h3) fun _ h5 => (gfR h5 v0 6 4).bind fun a6 => bnd2 (J7_fill a6 0 h5) fun _ h7 => (gfR h7 v0 6 5).bind fun a8 => bnd2 (J7_fill a8 0 h7) fun _ h9 => (gfR h9 v0 6 6).bind fun a10 => bnd2 (J7_fill a10 (-1) h9) fun _ h11 => (gfR h11 v0 6 7).bind fun a12 => bnd2 (J7_fill a12 0 h11) fun _ h13 => (gfR h13 v0 6 8).bind fun a14 => bnd2 (J7_fill a14 0 h13) fun _ h15 => some ((), h15)
theorem t_Prog_wipe {l : Launch} {G : GX} {v0 : Nat} {h : AHeap} {h1 : AHeap} (hf : Prog_wipe v0 h = some ((), h1)) : CT l G kProg_wipe 0 0 [.ref v0] h none h1 := by
  refine CT_of (ls := [some (.ref v0)]) (Z := fun z => z = ((), h1)) (by decide +kernel) (Nat.le_of_ble_eq_true rfl) hf rfl ⟨rfl, trivial⟩ (fun E ok => ?_)
  unfold Prog_wipe
  refine J_aload_n (pc' := 1) ok (dOf dX6_wipe 0 rfl) rfl rfl rfl ?_
  refine J_iconst (v := 0) (pc' := 2) ok (dOf dX6_wipe 1 rfl) rfl (by decide) ?_
  refine J_putI (ci := 6) (kf := 0) (C := RX6) (T := TX6) (N := 9) (pc' := 5) ok tyX6 (dOf dX6_wipe 2 rfl) rfl rfl (by decide) win_6 tyX6_ok nmX6 rfl rfl wfl_X6_36 (fun h1 _ => ?_)
  refine J_aload_n (pc' := 6) ok (dOf dX6_wipe 3 rfl) rfl rfl rfl ?_
  refine J_iconst (v := 0) (pc' := 7) ok (dOf dX6_wipe 4 rfl) rfl (by decide) ?_
  refine J_putI (ci := 6) (kf := 1) (C := RX6) (T := TX6) (N := 9) (pc' := 10) ok tyX6 (dOf dX6_wipe 5 rfl) rfl rfl (by decide) win_6 tyX6_ok nmX6 rfl rfl wfl_X6_40 (fun h2 _ => ?_)
  refine J_aload_n (pc' := 11) ok (dOf dX6_wipe 6 rfl) rfl rfl rfl ?_
  refine J_iconst (v := 0) (pc' := 12) ok (dOf dX6_wipe 7 rfl) rfl (by decide) ?_
  refine J_putI (ci := 6) (kf := 2) (C := RX6) (T := TX6) (N := 9) (pc' := 15) ok tyX6 (dOf dX6_wipe 8 rfl) rfl rfl (by decide) win_6 tyX6_ok nmX6 rfl rfl wfl_X6_43 (fun h3 _ => ?_)
  refine J_aload_n (pc' := 16) ok (dOf dX6_wipe 9 rfl) rfl rfl rfl ?_
  refine J_getR (ci := 6) (kf := 3) (C := RX6) (T := TX6) (N := 9) (pc' := 19) ok (dOf dX6_wipe 10 rfl) rfl (by decide) rfl (by decide) win_6 wfl_X6_9 (fun a4 => ?_)
  refine J_iconst (v := 0) (pc' := 20) ok (dOf dX6_wipe 11 rfl) rfl (by decide) ?_
  refine J_callSv (k2 := kJ7_fill) (as := [.ref a4, .int 0]) (pc' := 23) ok (dOf dX6_wipe 12 rfl) rfl (cw_J7_fill (by decide) (by decide)) wml_X6_30 wstat_J7_fill_53178 ⟨Nat.le_refl 0, Nat.le_refl 0⟩ (Nat.le_of_ble_eq_true rfl) rfl (fun _ _ hf => t_J7_fill hf) (fun _ h5 => ?_)
  refine J_aload_n (pc' := 24) ok (dOf dX6_wipe 13 rfl) rfl rfl rfl ?_
  refine J_getR (ci := 6) (kf := 4) (C := RX6) (T := TX6) (N := 9) (pc' := 27) ok (dOf dX6_wipe 14 rfl) rfl (by decide) rfl (by decide) win_6 wfl_X6_15 (fun a6 => ?_)
  refine J_iconst (v := 0) (pc' := 28) ok (dOf dX6_wipe 15 rfl) rfl (by decide) ?_
  refine J_callSv (k2 := kJ7_fill) (as := [.ref a6, .int 0]) (pc' := 31) ok (dOf dX6_wipe 16 rfl) rfl (cw_J7_fill (by decide) (by decide)) wml_X6_30 wstat_J7_fill_53178 ⟨Nat.le_refl 0, Nat.le_refl 0⟩ (Nat.le_of_ble_eq_true rfl) rfl (fun _ _ hf => t_J7_fill hf) (fun _ h7 => ?_)
  refine J_aload_n (pc' := 32) ok (dOf dX6_wipe 17 rfl) rfl rfl rfl ?_
  refine J_getR (ci := 6) (kf := 5) (C := RX6) (T := TX6) (N := 9) (pc' := 35) ok (dOf dX6_wipe 18 rfl) rfl (by decide) rfl (by decide) win_6 wfl_X6_18 (fun a8 => ?_)
  refine J_iconst (v := 0) (pc' := 36) ok (dOf dX6_wipe 19 rfl) rfl (by decide) ?_
  refine J_callSv (k2 := kJ7_fill) (as := [.ref a8, .int 0]) (pc' := 39) ok (dOf dX6_wipe 20 rfl) rfl (cw_J7_fill (by decide) (by decide)) wml_X6_30 wstat_J7_fill_53178 ⟨Nat.le_refl 0, Nat.le_refl 0⟩ (Nat.le_of_ble_eq_true rfl) rfl (fun _ _ hf => t_J7_fill hf) (fun _ h9 => ?_)
  refine J_aload_n (pc' := 40) ok (dOf dX6_wipe 21 rfl) rfl rfl rfl ?_
  refine J_getR (ci := 6) (kf := 6) (C := RX6) (T := TX6) (N := 9) (pc' := 43) ok (dOf dX6_wipe 22 rfl) rfl (by decide) rfl (by decide) win_6 wfl_X6_21 (fun a10 => ?_)
  refine J_iconst (v := (-1)) (pc' := 44) ok (dOf dX6_wipe 23 rfl) rfl (by decide) ?_
  refine J_callSv (k2 := kJ7_fill) (as := [.ref a10, .int (-1)]) (pc' := 47) ok (dOf dX6_wipe 24 rfl) rfl (cw_J7_fill (by decide) (by decide)) wml_X6_30 wstat_J7_fill_53178 ⟨Nat.le_refl 0, Nat.le_refl 0⟩ (Nat.le_of_ble_eq_true rfl) rfl (fun _ _ hf => t_J7_fill hf) (fun _ h11 => ?_)
  refine J_aload_n (pc' := 48) ok (dOf dX6_wipe 25 rfl) rfl rfl rfl ?_
  refine J_getR (ci := 6) (kf := 7) (C := RX6) (T := TX6) (N := 9) (pc' := 51) ok (dOf dX6_wipe 26 rfl) rfl (by decide) rfl (by decide) win_6 wfl_X6_24 (fun a12 => ?_)
  refine J_iconst (v := 0) (pc' := 52) ok (dOf dX6_wipe 27 rfl) rfl (by decide) ?_
  refine J_callSv (k2 := kJ7_fill) (as := [.ref a12, .int 0]) (pc' := 55) ok (dOf dX6_wipe 28 rfl) rfl (cw_J7_fill (by decide) (by decide)) wml_X6_30 wstat_J7_fill_53178 ⟨Nat.le_refl 0, Nat.le_refl 0⟩ (Nat.le_of_ble_eq_true rfl) rfl (fun _ _ hf => t_J7_fill hf) (fun _ h13 => ?_)
  refine J_aload_n (pc' := 56) ok (dOf dX6_wipe 29 rfl) rfl rfl rfl ?_
  refine J_getR (ci := 6) (kf := 8) (C := RX6) (T := TX6) (N := 9) (pc' := 59) ok (dOf dX6_wipe 30 rfl) rfl (by decide) rfl (by decide) win_6 wfl_X6_27 (fun a14 => ?_)
  refine J_iconst (v := 0) (pc' := 60) ok (dOf dX6_wipe 31 rfl) rfl (by decide) ?_
  refine J_callSv (k2 := kJ7_fill) (as := [.ref a14, .int 0]) (pc' := 63) ok (dOf dX6_wipe 32 rfl) rfl (cw_J7_fill (by decide) (by decide)) wml_X6_30 wstat_J7_fill_53178 ⟨Nat.le_refl 0, Nat.le_refl 0⟩ (Nat.le_of_ble_eq_true rfl) rfl (fun _ _ hf => t_J7_fill hf) (fun _ h15 => ?_)
  exact J_vreturn ok (dOf dX6_wipe 33 rfl) rfl (Eq.refl 0) (Nat.le_refl 0)
-- X9_kindOf
abbrev kTape_kindOf : Cd := (yX9_kindOf, cX9_kindOf, 1, (some .int), 0, 0)
theorem dX9_kindOf : dcheck cX9_kindOf [(0, .iload_n 0, 1), (1, .bipush 97, 2), (3, .if_icmp .lt 11, 3), (6, .iload_n 0, 1), (7, .bipush 122, 2), (9, .if_icmp .gt 5, 3), (12, .iconst 1, 1), (13, .ireturn, 1), (14, .iload_n 0, 1), (15, .bipush 48, 2), (17, .if_icmp .lt 13, 3), (20, .iload_n 0, 1), (21, .bipush 57, 2), (23, .if_icmp .gt 7, 3), (26, .iconst 2, 1), (27, .goto 4, 3), (30, .iconst 3, 1), (31, .ireturn, 1)] = true := by decide +kernel
theorem cw_Tape_kindOf {k : Cd} (h1 : kTape_kindOf.2.2.2.2.1 + 1 ≤ k.2.2.2.2.1) (h2 : 8 + (kTape_kindOf.2.2.1 + 11) + kTape_kindOf.2.2.2.2.2 ≤ k.2.2.2.2.2) : Cw k kTape_kindOf 1 := ⟨wcode_X9_kindOf, wini_SplitProgram_Tape, ⟨by decide, by decide, by decide +kernel⟩, h1, h2⟩
def Tape_kindOf_j31 (v0 : Int32) (t0 : Int32) (h : AHeap) : Option (Int32 × AHeap) :=
  some (t0, h)
theorem Tape_kindOf_j31_J {E : JE} {l : Launch} {G : GX} {v : Int32} {h' : AHeap} (ok : JOK E l G kTape_kindOf 0 0 (some (.int v)) h') (v0 : Int32) (t0 : Int32) (h : AHeap) : J E kTape_kindOf (Tape_kindOf_j31 v0 t0 h) (fun z => z = (v, h')) 31 [some (.int v0)] [.int t0] h 0 0 := by
  unfold Tape_kindOf_j31
  exact J_ireturn ok (dOf dX9_kindOf 17 rfl) rfl (Eq.refl 0) (Nat.le_refl 0)
def Tape_kindOf_j30 (v0 : Int32) (h : AHeap) : Option (Int32 × AHeap) :=
  Tape_kindOf_j31 v0 3 h
theorem Tape_kindOf_j30_J {E : JE} {l : Launch} {G : GX} {v : Int32} {h' : AHeap} (ok : JOK E l G kTape_kindOf 0 0 (some (.int v)) h') (v0 : Int32) (h : AHeap) : J E kTape_kindOf (Tape_kindOf_j30 v0 h) (fun z => z = (v, h')) 30 [some (.int v0)] [] h 0 0 := by
  unfold Tape_kindOf_j30
  refine J_iconst (v := 3) (pc' := 31) ok (dOf dX9_kindOf 16 rfl) rfl (by decide) ?_
  exact Tape_kindOf_j31_J ok v0 3 h
def Tape_kindOf_j14 (v0 : Int32) (h : AHeap) : Option (Int32 × AHeap) :=
  (if v0 < 48 then Tape_kindOf_j30 v0 h else (if 57 < v0 then Tape_kindOf_j30 v0 h else Tape_kindOf_j31 v0 2 h))
theorem Tape_kindOf_j14_J {E : JE} {l : Launch} {G : GX} {v : Int32} {h' : AHeap} (ok : JOK E l G kTape_kindOf 0 0 (some (.int v)) h') (v0 : Int32) (h : AHeap) : J E kTape_kindOf (Tape_kindOf_j14 v0 h) (fun z => z = (v, h')) 14 [some (.int v0)] [] h 0 0 := by
  unfold Tape_kindOf_j14
  refine J_iload_n (pc' := 15) ok (dOf dX9_kindOf 8 rfl) rfl rfl rfl ?_
  refine J_bipush (v := 48) (pc' := 17) ok (dOf dX9_kindOf 9 rfl) rfl (by decide) ?_
  refine J_icmp_lt (tgt := 30) (pc' := 20) ok (dOf dX9_kindOf 10 rfl) rfl (by decide) ?_ ?_
  · exact Tape_kindOf_j30_J ok v0 h
  · refine J_iload_n (pc' := 21) ok (dOf dX9_kindOf 11 rfl) rfl rfl rfl ?_
    refine J_bipush (v := 57) (pc' := 23) ok (dOf dX9_kindOf 12 rfl) rfl (by decide) ?_
    refine J_icmp_gt (tgt := 30) (pc' := 26) ok (dOf dX9_kindOf 13 rfl) rfl (by decide) ?_ ?_
    · exact Tape_kindOf_j30_J ok v0 h
    · refine J_iconst (v := 2) (pc' := 27) ok (dOf dX9_kindOf 14 rfl) rfl (by decide) ?_
      refine J_goto (tgt := 31) ok (dOf dX9_kindOf 15 rfl) (by decide) ?_
      exact Tape_kindOf_j31_J ok v0 2 h
def Tape_kindOf (v0 : Int32) (h : AHeap) : Option (Int32 × AHeap) :=
  (if v0 < 97 then Tape_kindOf_j14 v0 h else (if 122 < v0 then Tape_kindOf_j14 v0 h else some (1, h)))
theorem t_Tape_kindOf {l : Launch} {G : GX} {v0 : Int32} {h : AHeap} {v : Int32} {h1 : AHeap} (hf : Tape_kindOf v0 h = some (v, h1)) : CT l G kTape_kindOf 0 0 [.int v0] h (some (.int v)) h1 := by
  refine CT_of (ls := [some (.int v0)]) (Z := fun z => z = (v, h1)) (by decide +kernel) (Nat.le_of_ble_eq_true rfl) hf rfl ⟨rfl, trivial⟩ (fun E ok => ?_)
  unfold Tape_kindOf
  refine J_iload_n (pc' := 1) ok (dOf dX9_kindOf 0 rfl) rfl rfl rfl ?_
  refine J_bipush (v := 97) (pc' := 3) ok (dOf dX9_kindOf 1 rfl) rfl (by decide) ?_
  refine J_icmp_lt (tgt := 14) (pc' := 6) ok (dOf dX9_kindOf 2 rfl) rfl (by decide) ?_ ?_
  · exact Tape_kindOf_j14_J ok v0 h
  · refine J_iload_n (pc' := 7) ok (dOf dX9_kindOf 3 rfl) rfl rfl rfl ?_
    refine J_bipush (v := 122) (pc' := 9) ok (dOf dX9_kindOf 4 rfl) rfl (by decide) ?_
    refine J_icmp_gt (tgt := 14) (pc' := 12) ok (dOf dX9_kindOf 5 rfl) rfl (by decide) ?_ ?_
    · exact Tape_kindOf_j14_J ok v0 h
    · refine J_iconst (v := 1) (pc' := 13) ok (dOf dX9_kindOf 6 rfl) rfl (by decide) ?_
      exact J_ireturn ok (dOf dX9_kindOf 7 rfl) rfl (Eq.refl 0) (Nat.le_refl 0)
-- X9_step
abbrev kTape_step : Cd := (yX9_step, cX9_step, 1, none, 1, 20)
theorem dX9_step : dcheck cX9_step [(0, .aload_n 0, 1), (1, .aload_n 0, 1), (2, .getfield 27, 3), (5, .putfield 37, 3), (8, .aload_n 0, 1), (9, .getfield 37, 3), (12, .aload_n 0, 1), (13, .getfield 19, 3), (16, .if_icmp .ge 30, 3), (19, .aload_n 0, 1), (20, .getfield 11, 3), (23, .aload_n 0, 1), (24, .getfield 37, 3), (27, .baload, 1), (28, .bipush 32, 2), (30, .if_icmp .ne 16, 3), (33, .aload_n 0, 1), (34, .dup, 1), (35, .getfield 37, 3), (38, .iconst 1, 1), (39, .iadd, 1), (40, .putfield 37, 3), (43, .goto (-35), 3), (46, .aload_n 0, 1), (47, .aload_n 0, 1), (48, .getfield 37, 3), (51, .putfield 27, 3), (54, .aload_n 0, 1), (55, .iconst 0, 1), (56, .putfield 40, 3), (59, .aload_n 0, 1), (60, .getfield 37, 3), (63, .aload_n 0, 1), (64, .getfield 19, 3), (67, .if_icmp .ge 80, 3), (70, .aload_n 0, 1), (71, .aload_n 0, 1), (72, .getfield 11, 3), (75, .aload_n 0, 1), (76, .getfield 37, 3), (79, .baload, 1), (80, .invokestatic 43, 3), (83, .putfield 40, 3), (86, .aload_n 0, 1), (87, .dup, 1), (88, .getfield 27, 3), (91, .iconst 1, 1), (92, .iadd, 1), (93, .putfield 27, 3), (96, .aload_n 0, 1), (97, .getfield 40, 3), (100, .iconst 3, 1), (101, .if_icmp .eq 46, 3), (104, .aload_n 0, 1), (105, .getfield 27, 3), (108, .aload_n 0, 1), (109, .getfield 19, 3), (112, .if_icmp .ge 35, 3), (115, .aload_n 0, 1), (116, .getfield 11, 3), (119, .aload_n 0, 1), (120, .getfield 27, 3), (123, .baload, 1), (124, .invokestatic 43, 3), (127, .aload_n 0, 1), (128, .getfield 40, 3), (131, .if_icmp .ne 16, 3), (134, .aload_n 0, 1), (135, .dup, 1), (136, .getfield 27, 3), (139, .iconst 1, 1), (140, .iadd, 1), (141, .putfield 27, 3), (144, .goto (-48), 3), (147, .return_, 1)] = true := by decide +kernel
theorem cw_Tape_step {k : Cd} (h1 : kTape_step.2.2.2.2.1 + 1 ≤ k.2.2.2.2.1) (h2 : 8 + (kTape_step.2.2.1 + 11) + kTape_step.2.2.2.2.2 ≤ k.2.2.2.2.2) : Cw k kTape_step 0 := ⟨wcode_X9_step, wini_SplitProgram_Tape, ⟨by decide, by decide, by decide +kernel⟩, h1, h2⟩
def Tape_step_b8 (v0 : Nat) (s : AHeap) : Option ((AHeap) ⊕ ((AHeap))) :=
  (gfI s v0 9 3).bind fun x3 => (gfI s v0 9 1).bind fun x4 => (if x4 ≤ x3 then some (Sum.inr s) else (gfR s v0 9 0).bind fun a5 => (gfI s v0 9 3).bind fun x6 => (ald 2 s a5 x6).bind fun x7 => (if ¬ x7 = 32 then some (Sum.inr s) else (gfI s v0 9 3).bind fun x8 => (pfV s v0 9 3 (.int (x8 + 1))).bind fun h9 => some (Sum.inl h9)))
theorem Tape_step_b8_J {E : JE} {l : Launch} {G : GX} {r : Option Value} {h' : AHeap} (ok : JOK E l G kTape_step 0 0 r h') (v0 : Nat) {Y : (AHeap) ⊕ ((AHeap)) → Prop} (k1 : ∀ s' : AHeap, Y (.inl s') → JW E kTape_step 8 [some (.ref v0)] [] s' 0 0) (kx46 : ∀ q : AHeap, Y (.inr q) → JW E kTape_step 46 [some (.ref v0)] [] q 0 0) (s : AHeap) : J E kTape_step (Tape_step_b8 v0 s) Y 8 [some (.ref v0)] [] s 0 0 := by
  unfold Tape_step_b8
  refine J_aload_n (pc' := 9) ok (dOf dX9_step 4 rfl) rfl rfl rfl ?_
  refine J_getI (ci := 9) (kf := 3) (C := RX9) (T := TX9) (N := 6) (pc' := 12) ok (dOf dX9_step 5 rfl) rfl (by decide) rfl (by decide) win_9 wfl_X9_37 (fun x3 => ?_)
  refine J_aload_n (pc' := 13) ok (dOf dX9_step 6 rfl) rfl rfl rfl ?_
  refine J_getI (ci := 9) (kf := 1) (C := RX9) (T := TX9) (N := 6) (pc' := 16) ok (dOf dX9_step 7 rfl) rfl (by decide) rfl (by decide) win_9 wfl_X9_19 (fun x4 => ?_)
  refine J_icmp_ge (tgt := 46) (pc' := 19) ok (dOf dX9_step 8 rfl) rfl (by decide) ?_ ?_
  · exact J_fin (kx46 s)
  · refine J_aload_n (pc' := 20) ok (dOf dX9_step 9 rfl) rfl rfl rfl ?_
    refine J_getR (ci := 9) (kf := 0) (C := RX9) (T := TX9) (N := 6) (pc' := 23) ok (dOf dX9_step 10 rfl) rfl (by decide) rfl (by decide) win_9 wfl_X9_11 (fun a5 => ?_)
    refine J_aload_n (pc' := 24) ok (dOf dX9_step 11 rfl) rfl rfl rfl ?_
    refine J_getI (ci := 9) (kf := 3) (C := RX9) (T := TX9) (N := 6) (pc' := 27) ok (dOf dX9_step 12 rfl) rfl (by decide) rfl (by decide) win_9 wfl_X9_37 (fun x6 => ?_)
    refine J_bald (pc' := 28) ok (dOf dX9_step 13 rfl) rfl (fun x7 => ?_)
    refine J_bipush (v := 32) (pc' := 30) ok (dOf dX9_step 14 rfl) rfl (by decide) ?_
    refine J_icmp_ne (tgt := 46) (pc' := 33) ok (dOf dX9_step 15 rfl) rfl (by decide) ?_ ?_
    · exact J_fin (kx46 s)
    · refine J_aload_n (pc' := 34) ok (dOf dX9_step 16 rfl) rfl rfl rfl ?_
      refine J_dup (pc' := 35) ok (dOf dX9_step 17 rfl) rfl rfl ?_
      refine J_getI (ci := 9) (kf := 3) (C := RX9) (T := TX9) (N := 6) (pc' := 38) ok (dOf dX9_step 18 rfl) rfl (by decide) rfl (by decide) win_9 wfl_X9_37 (fun x8 => ?_)
      refine J_iconst (v := 1) (pc' := 39) ok (dOf dX9_step 19 rfl) rfl (by decide) ?_
      refine J_iadd (pc' := 40) ok (dOf dX9_step 20 rfl) rfl ?_
      refine J_putI (ci := 9) (kf := 3) (C := RX9) (T := TX9) (N := 6) (pc' := 43) ok tyX9 (dOf dX9_step 21 rfl) rfl rfl (by decide) win_9 tyX9_ok nmX9 rfl rfl wfl_X9_37 (fun h9 _ => ?_)
      refine J_goto (tgt := 8) ok (dOf dX9_step 22 rfl) (by decide) ?_
      exact J_fin (k1 h9)
def Tape_step_j147 (v0 : Nat) (h : AHeap) : Option (Unit × AHeap) :=
  some ((), h)
theorem Tape_step_j147_J {E : JE} {l : Launch} {G : GX} {h' : AHeap} (ok : JOK E l G kTape_step 0 0 none h') (v0 : Nat) (h : AHeap) : J E kTape_step (Tape_step_j147 v0 h) (fun z => z = ((), h')) 147 [some (.ref v0)] [] h 0 0 := by
  unfold Tape_step_j147
  exact J_vreturn ok (dOf dX9_step 74 rfl) rfl (Eq.refl 0) (Nat.le_refl 0)
def Tape_step_b96 (v0 : Nat) (s : AHeap) : Option ((AHeap) ⊕ ((AHeap))) :=
  (gfI s v0 9 5).bind fun x23 => (if x23 = 3 then some (Sum.inr s) else (gfI s v0 9 4).bind fun x24 => (gfI s v0 9 1).bind fun x25 => (if x25 ≤ x24 then some (Sum.inr s) else (gfR s v0 9 0).bind fun a26 => (gfI s v0 9 4).bind fun x27 => (ald 2 s a26 x27).bind fun x28 => bnd2 (Tape_kindOf x28 s) fun x30 h29 => (gfI h29 v0 9 5).bind fun x31 => (if ¬ x30 = x31 then some (Sum.inr h29) else (gfI h29 v0 9 4).bind fun x32 => (pfV h29 v0 9 4 (.int (x32 + 1))).bind fun h33 => some (Sum.inl h33))))
theorem Tape_step_b96_J {E : JE} {l : Launch} {G : GX} {r : Option Value} {h' : AHeap} (ok : JOK E l G kTape_step 0 0 r h') (v0 : Nat) {Y : (AHeap) ⊕ ((AHeap)) → Prop} (k1 : ∀ s' : AHeap, Y (.inl s') → JW E kTape_step 96 [some (.ref v0)] [] s' 0 0) (kx147 : ∀ q : AHeap, Y (.inr q) → JW E kTape_step 147 [some (.ref v0)] [] q 0 0) (s : AHeap) : J E kTape_step (Tape_step_b96 v0 s) Y 96 [some (.ref v0)] [] s 0 0 := by
  unfold Tape_step_b96
  refine J_aload_n (pc' := 97) ok (dOf dX9_step 49 rfl) rfl rfl rfl ?_
  refine J_getI (ci := 9) (kf := 5) (C := RX9) (T := TX9) (N := 6) (pc' := 100) ok (dOf dX9_step 50 rfl) rfl (by decide) rfl (by decide) win_9 wfl_X9_40 (fun x23 => ?_)
  refine J_iconst (v := 3) (pc' := 101) ok (dOf dX9_step 51 rfl) rfl (by decide) ?_
  refine J_icmp_eq (tgt := 147) (pc' := 104) ok (dOf dX9_step 52 rfl) rfl (by decide) ?_ ?_
  · exact J_fin (kx147 s)
  · refine J_aload_n (pc' := 105) ok (dOf dX9_step 53 rfl) rfl rfl rfl ?_
    refine J_getI (ci := 9) (kf := 4) (C := RX9) (T := TX9) (N := 6) (pc' := 108) ok (dOf dX9_step 54 rfl) rfl (by decide) rfl (by decide) win_9 wfl_X9_27 (fun x24 => ?_)
    refine J_aload_n (pc' := 109) ok (dOf dX9_step 55 rfl) rfl rfl rfl ?_
    refine J_getI (ci := 9) (kf := 1) (C := RX9) (T := TX9) (N := 6) (pc' := 112) ok (dOf dX9_step 56 rfl) rfl (by decide) rfl (by decide) win_9 wfl_X9_19 (fun x25 => ?_)
    refine J_icmp_ge (tgt := 147) (pc' := 115) ok (dOf dX9_step 57 rfl) rfl (by decide) ?_ ?_
    · exact J_fin (kx147 s)
    · refine J_aload_n (pc' := 116) ok (dOf dX9_step 58 rfl) rfl rfl rfl ?_
      refine J_getR (ci := 9) (kf := 0) (C := RX9) (T := TX9) (N := 6) (pc' := 119) ok (dOf dX9_step 59 rfl) rfl (by decide) rfl (by decide) win_9 wfl_X9_11 (fun a26 => ?_)
      refine J_aload_n (pc' := 120) ok (dOf dX9_step 60 rfl) rfl rfl rfl ?_
      refine J_getI (ci := 9) (kf := 4) (C := RX9) (T := TX9) (N := 6) (pc' := 123) ok (dOf dX9_step 61 rfl) rfl (by decide) rfl (by decide) win_9 wfl_X9_27 (fun x27 => ?_)
      refine J_bald (pc' := 124) ok (dOf dX9_step 62 rfl) rfl (fun x28 => ?_)
      refine J_callSi (k2 := kTape_kindOf) (as := [.int x28]) (pc' := 127) ok (dOf dX9_step 63 rfl) rfl (cw_Tape_kindOf (by decide) (by decide)) wml_X9_43 wstat_X9_kindOf ⟨Nat.le_refl 0, Nat.le_refl 0⟩ (Nat.le_of_ble_eq_true rfl) rfl (fun _ _ hf => t_Tape_kindOf hf) (fun x30 h29 => ?_)
      refine J_aload_n (pc' := 128) ok (dOf dX9_step 64 rfl) rfl rfl rfl ?_
      refine J_getI (ci := 9) (kf := 5) (C := RX9) (T := TX9) (N := 6) (pc' := 131) ok (dOf dX9_step 65 rfl) rfl (by decide) rfl (by decide) win_9 wfl_X9_40 (fun x31 => ?_)
      refine J_icmp_ne (tgt := 147) (pc' := 134) ok (dOf dX9_step 66 rfl) rfl (by decide) ?_ ?_
      · exact J_fin (kx147 h29)
      · refine J_aload_n (pc' := 135) ok (dOf dX9_step 67 rfl) rfl rfl rfl ?_
        refine J_dup (pc' := 136) ok (dOf dX9_step 68 rfl) rfl rfl ?_
        refine J_getI (ci := 9) (kf := 4) (C := RX9) (T := TX9) (N := 6) (pc' := 139) ok (dOf dX9_step 69 rfl) rfl (by decide) rfl (by decide) win_9 wfl_X9_27 (fun x32 => ?_)
        refine J_iconst (v := 1) (pc' := 140) ok (dOf dX9_step 70 rfl) rfl (by decide) ?_
        refine J_iadd (pc' := 141) ok (dOf dX9_step 71 rfl) rfl ?_
        refine J_putI (ci := 9) (kf := 4) (C := RX9) (T := TX9) (N := 6) (pc' := 144) ok tyX9 (dOf dX9_step 72 rfl) rfl rfl (by decide) win_9 tyX9_ok nmX9 rfl rfl wfl_X9_27 (fun h33 _ => ?_)
        refine J_goto (tgt := 96) ok (dOf dX9_step 73 rfl) (by decide) ?_
        exact J_fin (k1 h33)
def Tape_step_j46 (v0 : Nat) (h : AHeap) : Option (Unit × AHeap) :=
  (gfI h v0 9 3).bind fun x10 => (pfV h v0 9 4 (.int x10)).bind fun h11 => (pfV h11 v0 9 5 (.int 0)).bind fun h12 => (gfI h12 v0 9 3).bind fun x13 => (gfI h12 v0 9 1).bind fun x14 => (if x14 ≤ x13 then Tape_step_j147 v0 h12 else (gfR h12 v0 9 0).bind fun a15 => (gfI h12 v0 9 3).bind fun x16 => (ald 2 h12 a15 x16).bind fun x17 => bnd2 (Tape_kindOf x17 h12) fun x19 h18 => (pfV h18 v0 9 5 (.int x19)).bind fun h20 => (gfI h20 v0 9 4).bind fun x21 => (pfV h20 v0 9 4 (.int (x21 + 1))).bind fun h22 => (iter (Tape_step_b96 v0) Lmax h22).bind (fun (q96 : AHeap) => Tape_step_j147 v0 q96))
theorem Tape_step_j46_J {E : JE} {l : Launch} {G : GX} {h' : AHeap} (ok : JOK E l G kTape_step 0 0 none h') (v0 : Nat) (h : AHeap) : J E kTape_step (Tape_step_j46 v0 h) (fun z => z = ((), h')) 46 [some (.ref v0)] [] h 0 0 := by
  unfold Tape_step_j46
  refine J_aload_n (pc' := 47) ok (dOf dX9_step 23 rfl) rfl rfl rfl ?_
  refine J_aload_n (pc' := 48) ok (dOf dX9_step 24 rfl) rfl rfl rfl ?_
  refine J_getI (ci := 9) (kf := 3) (C := RX9) (T := TX9) (N := 6) (pc' := 51) ok (dOf dX9_step 25 rfl) rfl (by decide) rfl (by decide) win_9 wfl_X9_37 (fun x10 => ?_)
  refine J_putI (ci := 9) (kf := 4) (C := RX9) (T := TX9) (N := 6) (pc' := 54) ok tyX9 (dOf dX9_step 26 rfl) rfl rfl (by decide) win_9 tyX9_ok nmX9 rfl rfl wfl_X9_27 (fun h11 _ => ?_)
  refine J_aload_n (pc' := 55) ok (dOf dX9_step 27 rfl) rfl rfl rfl ?_
  refine J_iconst (v := 0) (pc' := 56) ok (dOf dX9_step 28 rfl) rfl (by decide) ?_
  refine J_putI (ci := 9) (kf := 5) (C := RX9) (T := TX9) (N := 6) (pc' := 59) ok tyX9 (dOf dX9_step 29 rfl) rfl rfl (by decide) win_9 tyX9_ok nmX9 rfl rfl wfl_X9_40 (fun h12 _ => ?_)
  refine J_aload_n (pc' := 60) ok (dOf dX9_step 30 rfl) rfl rfl rfl ?_
  refine J_getI (ci := 9) (kf := 3) (C := RX9) (T := TX9) (N := 6) (pc' := 63) ok (dOf dX9_step 31 rfl) rfl (by decide) rfl (by decide) win_9 wfl_X9_37 (fun x13 => ?_)
  refine J_aload_n (pc' := 64) ok (dOf dX9_step 32 rfl) rfl rfl rfl ?_
  refine J_getI (ci := 9) (kf := 1) (C := RX9) (T := TX9) (N := 6) (pc' := 67) ok (dOf dX9_step 33 rfl) rfl (by decide) rfl (by decide) win_9 wfl_X9_19 (fun x14 => ?_)
  refine J_icmp_ge (tgt := 147) (pc' := 70) ok (dOf dX9_step 34 rfl) rfl (by decide) ?_ ?_
  · exact Tape_step_j147_J ok v0 h12
  · refine J_aload_n (pc' := 71) ok (dOf dX9_step 35 rfl) rfl rfl rfl ?_
    refine J_aload_n (pc' := 72) ok (dOf dX9_step 36 rfl) rfl rfl rfl ?_
    refine J_getR (ci := 9) (kf := 0) (C := RX9) (T := TX9) (N := 6) (pc' := 75) ok (dOf dX9_step 37 rfl) rfl (by decide) rfl (by decide) win_9 wfl_X9_11 (fun a15 => ?_)
    refine J_aload_n (pc' := 76) ok (dOf dX9_step 38 rfl) rfl rfl rfl ?_
    refine J_getI (ci := 9) (kf := 3) (C := RX9) (T := TX9) (N := 6) (pc' := 79) ok (dOf dX9_step 39 rfl) rfl (by decide) rfl (by decide) win_9 wfl_X9_37 (fun x16 => ?_)
    refine J_bald (pc' := 80) ok (dOf dX9_step 40 rfl) rfl (fun x17 => ?_)
    refine J_callSi (k2 := kTape_kindOf) (as := [.int x17]) (pc' := 83) ok (dOf dX9_step 41 rfl) rfl (cw_Tape_kindOf (by decide) (by decide)) wml_X9_43 wstat_X9_kindOf ⟨Nat.le_refl 0, Nat.le_refl 0⟩ (Nat.le_of_ble_eq_true rfl) rfl (fun _ _ hf => t_Tape_kindOf hf) (fun x19 h18 => ?_)
    refine J_putI (ci := 9) (kf := 5) (C := RX9) (T := TX9) (N := 6) (pc' := 86) ok tyX9 (dOf dX9_step 42 rfl) rfl rfl (by decide) win_9 tyX9_ok nmX9 rfl rfl wfl_X9_40 (fun h20 _ => ?_)
    refine J_aload_n (pc' := 87) ok (dOf dX9_step 43 rfl) rfl rfl rfl ?_
    refine J_dup (pc' := 88) ok (dOf dX9_step 44 rfl) rfl rfl ?_
    refine J_getI (ci := 9) (kf := 4) (C := RX9) (T := TX9) (N := 6) (pc' := 91) ok (dOf dX9_step 45 rfl) rfl (by decide) rfl (by decide) win_9 wfl_X9_27 (fun x21 => ?_)
    refine J_iconst (v := 1) (pc' := 92) ok (dOf dX9_step 46 rfl) rfl (by decide) ?_
    refine J_iadd (pc' := 93) ok (dOf dX9_step 47 rfl) rfl ?_
    refine J_putI (ci := 9) (kf := 4) (C := RX9) (T := TX9) (N := 6) (pc' := 96) ok tyX9 (dOf dX9_step 48 rfl) rfl rfl (by decide) win_9 tyX9_ok nmX9 rfl rfl wfl_X9_27 (fun h22 _ => ?_)
    refine J_iter (lf := fun z96 => [some (.ref v0)]) (sf := fun _ => []) (hf := fun z96 => z96) (px := (fun (q96 : AHeap) => 147)) (lx := (fun (q96 : AHeap) => [some (.ref v0)])) (sx := (fun (q96 : AHeap) => [])) (hx := (fun (q96 : AHeap) => q96)) (fun Y2 z96 m1 m2 => Tape_step_b96_J ok v0 m1 m2 z96) (fun q96 => ?_) Lmax _
    exact Tape_step_j147_J ok v0 q96
def Tape_step (v0 : Nat) (h : AHeap) : Option (Unit × AHeap) :=
  (gfI h v0 9 4).bind fun x1 => (pfV h v0 9 3 (.int x1)).bind fun h2 => (iter (Tape_step_b8 v0) Lmax h2).bind (fun (q8 : AHeap) => Tape_step_j46 v0 q8)
theorem t_Tape_step {l : Launch} {G : GX} {v0 : Nat} {h : AHeap} {h1 : AHeap} (hf : Tape_step v0 h = some ((), h1)) : CT l G kTape_step 0 0 [.ref v0] h none h1 := by
  refine CT_of (ls := [some (.ref v0)]) (Z := fun z => z = ((), h1)) (by decide +kernel) (Nat.le_of_ble_eq_true rfl) hf rfl ⟨rfl, trivial⟩ (fun E ok => ?_)
  unfold Tape_step
  refine J_aload_n (pc' := 1) ok (dOf dX9_step 0 rfl) rfl rfl rfl ?_
  refine J_aload_n (pc' := 2) ok (dOf dX9_step 1 rfl) rfl rfl rfl ?_
  refine J_getI (ci := 9) (kf := 4) (C := RX9) (T := TX9) (N := 6) (pc' := 5) ok (dOf dX9_step 2 rfl) rfl (by decide) rfl (by decide) win_9 wfl_X9_27 (fun x1 => ?_)
  refine J_putI (ci := 9) (kf := 3) (C := RX9) (T := TX9) (N := 6) (pc' := 8) ok tyX9 (dOf dX9_step 3 rfl) rfl rfl (by decide) win_9 tyX9_ok nmX9 rfl rfl wfl_X9_37 (fun h2 _ => ?_)
  refine J_iter (lf := fun z8 => [some (.ref v0)]) (sf := fun _ => []) (hf := fun z8 => z8) (px := (fun (q8 : AHeap) => 46)) (lx := (fun (q8 : AHeap) => [some (.ref v0)])) (sx := (fun (q8 : AHeap) => [])) (hx := (fun (q8 : AHeap) => q8)) (fun Y2 z8 m1 m2 => Tape_step_b8_J ok v0 m1 m2 z8) (fun q8 => ?_) Lmax _
  exact Tape_step_j46_J ok v0 q8
-- J0_coder_7d493
abbrev kJ0_coder : Cd := (yJ0_coder_7d493, cJ0_coder_7d493, 1, (some .byte), 0, 0)
theorem dJ0_coder_7d493 : dcheck cJ0_coder_7d493 [(0, .getstatic 38, 3), (3, .ifCond .eq 10, 3), (6, .aload_n 0, 1), (7, .getfield 15, 3), (10, .goto 4, 3), (13, .iconst 1, 1), (14, .ireturn, 1)] = true := by decide +kernel
theorem cw_J0_coder {k : Cd} (h1 : kJ0_coder.2.2.2.2.1 + 1 ≤ k.2.2.2.2.1) (h2 : 8 + (kJ0_coder.2.2.1 + 11) + kJ0_coder.2.2.2.2.2 ≤ k.2.2.2.2.2) : Cw k kJ0_coder 0 := ⟨wcode_J0_coder_7d493, wini_java_lang_String, ⟨by decide, by decide, by decide +kernel⟩, h1, h2⟩
def J0_coder_j14 (v0 : Nat) (t0 : Int32) (h : AHeap) : Option (Int32 × AHeap) :=
  (nrw .byte t0).bind fun z => some (z, h)
theorem J0_coder_j14_J {E : JE} {l : Launch} {G : GX} {v : Int32} {h' : AHeap} (ok : JOK E l G kJ0_coder 0 0 (some (.int v)) h') (v0 : Nat) (t0 : Int32) (h : AHeap) : J E kJ0_coder (J0_coder_j14 v0 t0 h) (fun z => z = (v, h')) 14 [some (.ref v0)] [.int t0] h 0 0 := by
  unfold J0_coder_j14
  exact J_nreturn ok (dOf dJ0_coder_7d493 6 rfl) rfl (Eq.refl 0) (Nat.le_refl 0)
def J0_coder (v0 : Nat) (h : AHeap) : Option (Int32 × AHeap) :=
  (if (1 : Int32) = 0 then J0_coder_j14 v0 1 h else (gfI h v0 100 1).bind fun x1 => J0_coder_j14 v0 x1 h)
theorem t_J0_coder {l : Launch} {G : GX} {v0 : Nat} {h : AHeap} {v : Int32} {h1 : AHeap} (hf : J0_coder v0 h = some (v, h1)) : CT l G kJ0_coder 0 0 [.ref v0] h (some (.int v)) h1 := by
  refine CT_of (ls := [some (.ref v0)]) (Z := fun z => z = (v, h1)) (by decide +kernel) (Nat.le_of_ble_eq_true rfl) hf rfl ⟨rfl, trivial⟩ (fun E ok => ?_)
  unfold J0_coder
  refine J_gsCompact (pc' := 3) ok (dOf dJ0_coder_7d493 0 rfl) rfl wfl_J0_38 ?_
  refine J_if_eq (tgt := 13) (pc' := 6) ok (dOf dJ0_coder_7d493 1 rfl) rfl (by decide) ?_ ?_
  · refine J_iconst (v := 1) (pc' := 14) ok (dOf dJ0_coder_7d493 5 rfl) rfl (by decide) ?_
    exact J0_coder_j14_J ok v0 1 h
  · refine J_aload_n (pc' := 7) ok (dOf dJ0_coder_7d493 2 rfl) rfl rfl rfl ?_
    refine J_strC (pc' := 10) ok (dOf dJ0_coder_7d493 3 rfl) rfl wfl_J0_15 (fun x1 => ?_)
    refine J_goto (tgt := 14) ok (dOf dJ0_coder_7d493 4 rfl) (by decide) ?_
    exact J0_coder_j14_J ok v0 x1 h
-- J0_length_8abf5
abbrev kJ0_length : Cd := (yJ0_length_8abf5, cJ0_length_8abf5, 1, (some .int), 1, 20)
theorem dJ0_length_8abf5 : dcheck cJ0_length_8abf5 [(0, .aload_n 0, 1), (1, .getfield 9, 3), (4, .arraylength, 1), (5, .aload_n 0, 1), (6, .invokevirtual 335, 3), (9, .ishr, 1), (10, .ireturn, 1)] = true := by decide +kernel
theorem cw_J0_length {k : Cd} (h1 : kJ0_length.2.2.2.2.1 + 1 ≤ k.2.2.2.2.1) (h2 : 8 + (kJ0_length.2.2.1 + 11) + kJ0_length.2.2.2.2.2 ≤ k.2.2.2.2.2) : Cw k kJ0_length 0 := ⟨wcode_J0_length_8abf5, wini_java_lang_String, ⟨by decide, by decide, by decide +kernel⟩, h1, h2⟩
def J0_length (v0 : Nat) (h : AHeap) : Option (Int32 × AHeap) :=
  (gfR h v0 100 0).bind fun a1 => (alen h a1).bind fun x2 => (chkS v0).bind fun _ => bnd2 (J0_coder v0 h) fun x4 h3 => some (x2 >>> (x4 &&& 31), h3)
theorem t_J0_length {l : Launch} {G : GX} {v0 : Nat} {h : AHeap} {v : Int32} {h1 : AHeap} (hf : J0_length v0 h = some (v, h1)) : CT l G kJ0_length 0 0 [.ref v0] h (some (.int v)) h1 := by
  refine CT_of (ls := [some (.ref v0)]) (Z := fun z => z = (v, h1)) (by decide +kernel) (Nat.le_of_ble_eq_true rfl) hf rfl ⟨rfl, trivial⟩ (fun E ok => ?_)
  unfold J0_length
  refine J_aload_n (pc' := 1) ok (dOf dJ0_length_8abf5 0 rfl) rfl rfl rfl ?_
  refine J_strV (pc' := 4) ok (dOf dJ0_length_8abf5 1 rfl) rfl wfl_J0_9 (fun a1 => ?_)
  refine J_alen (pc' := 5) ok (dOf dJ0_length_8abf5 2 rfl) rfl (fun x2 => ?_)
  refine J_aload_n (pc' := 6) ok (dOf dJ0_length_8abf5 3 rfl) rfl rfl rfl ?_
  refine J_callSVi (k2 := kJ0_coder) (as := []) (pc' := 9) ok (dOf dJ0_length_8abf5 4 rfl) rfl (cw_J0_coder (by decide) (by decide)) wml_J0_335 winst_J0_coder_7d493 wsel_J0_coder_7d493 rfl ⟨Nat.le_refl 0, Nat.le_refl 0⟩ (Nat.le_of_ble_eq_true rfl) rfl (fun _ _ hf => t_J0_coder hf) (fun x4 h3 => ?_)
  refine J_ishr (pc' := 10) ok (dOf dJ0_length_8abf5 5 rfl) rfl ?_
  exact J_ireturn ok (dOf dJ0_length_8abf5 6 rfl) rfl (Eq.refl 0) (Nat.le_refl 0)
-- J0_isLatin1_aae02
abbrev kJ0_isLatin1 : Cd := (yJ0_isLatin1_aae02, cJ0_isLatin1_aae02, 1, (some .boolean), 0, 0)
theorem dJ0_isLatin1_aae02 : dcheck cJ0_isLatin1_aae02 [(0, .getstatic 38, 3), (3, .ifCond .eq 14, 3), (6, .aload_n 0, 1), (7, .getfield 15, 3), (10, .ifCond .ne 7, 3), (13, .iconst 1, 1), (14, .goto 4, 3), (17, .iconst 0, 1), (18, .ireturn, 1)] = true := by decide +kernel
theorem cw_J0_isLatin1 {k : Cd} (h1 : kJ0_isLatin1.2.2.2.2.1 + 1 ≤ k.2.2.2.2.1) (h2 : 8 + (kJ0_isLatin1.2.2.1 + 11) + kJ0_isLatin1.2.2.2.2.2 ≤ k.2.2.2.2.2) : Cw k kJ0_isLatin1 0 := ⟨wcode_J0_isLatin1_aae02, wini_java_lang_String, ⟨by decide, by decide, by decide +kernel⟩, h1, h2⟩
def J0_isLatin1_j18 (v0 : Nat) (t0 : Int32) (h : AHeap) : Option (Int32 × AHeap) :=
  (bz t0).bind fun z => some (z, h)
theorem J0_isLatin1_j18_J {E : JE} {l : Launch} {G : GX} {v : Int32} {h' : AHeap} (ok : JOK E l G kJ0_isLatin1 0 0 (some (.int v)) h') (v0 : Nat) (t0 : Int32) (h : AHeap) : J E kJ0_isLatin1 (J0_isLatin1_j18 v0 t0 h) (fun z => z = (v, h')) 18 [some (.ref v0)] [.int t0] h 0 0 := by
  unfold J0_isLatin1_j18
  exact J_zreturn ok (dOf dJ0_isLatin1_aae02 8 rfl) rfl (Eq.refl 0) (Nat.le_refl 0)
def J0_isLatin1_j17 (v0 : Nat) (h : AHeap) : Option (Int32 × AHeap) :=
  J0_isLatin1_j18 v0 0 h
theorem J0_isLatin1_j17_J {E : JE} {l : Launch} {G : GX} {v : Int32} {h' : AHeap} (ok : JOK E l G kJ0_isLatin1 0 0 (some (.int v)) h') (v0 : Nat) (h : AHeap) : J E kJ0_isLatin1 (J0_isLatin1_j17 v0 h) (fun z => z = (v, h')) 17 [some (.ref v0)] [] h 0 0 := by
  unfold J0_isLatin1_j17
  refine J_iconst (v := 0) (pc' := 18) ok (dOf dJ0_isLatin1_aae02 7 rfl) rfl (by decide) ?_
  exact J0_isLatin1_j18_J ok v0 0 h
def J0_isLatin1 (v0 : Nat) (h : AHeap) : Option (Int32 × AHeap) :=
  (if (1 : Int32) = 0 then J0_isLatin1_j17 v0 h else (gfI h v0 100 1).bind fun x1 => (if ¬ x1 = 0 then J0_isLatin1_j17 v0 h else J0_isLatin1_j18 v0 1 h))
theorem t_J0_isLatin1 {l : Launch} {G : GX} {v0 : Nat} {h : AHeap} {v : Int32} {h1 : AHeap} (hf : J0_isLatin1 v0 h = some (v, h1)) : CT l G kJ0_isLatin1 0 0 [.ref v0] h (some (.int v)) h1 := by
  refine CT_of (ls := [some (.ref v0)]) (Z := fun z => z = (v, h1)) (by decide +kernel) (Nat.le_of_ble_eq_true rfl) hf rfl ⟨rfl, trivial⟩ (fun E ok => ?_)
  unfold J0_isLatin1
  refine J_gsCompact (pc' := 3) ok (dOf dJ0_isLatin1_aae02 0 rfl) rfl wfl_J0_38 ?_
  refine J_if_eq (tgt := 17) (pc' := 6) ok (dOf dJ0_isLatin1_aae02 1 rfl) rfl (by decide) ?_ ?_
  · exact J0_isLatin1_j17_J ok v0 h
  · refine J_aload_n (pc' := 7) ok (dOf dJ0_isLatin1_aae02 2 rfl) rfl rfl rfl ?_
    refine J_strC (pc' := 10) ok (dOf dJ0_isLatin1_aae02 3 rfl) rfl wfl_J0_15 (fun x1 => ?_)
    refine J_if_ne (tgt := 17) (pc' := 13) ok (dOf dJ0_isLatin1_aae02 4 rfl) rfl (by decide) ?_ ?_
    · exact J0_isLatin1_j17_J ok v0 h
    · refine J_iconst (v := 1) (pc' := 14) ok (dOf dJ0_isLatin1_aae02 5 rfl) rfl (by decide) ?_
      refine J_goto (tgt := 18) ok (dOf dJ0_isLatin1_aae02 6 rfl) (by decide) ?_
      exact J0_isLatin1_j18_J ok v0 1 h
-- J3_checkIndex_8e157
abbrev kJ3_checkIndex : Cd := (yJ3_checkIndex_8e157, cJ3_checkIndex_8e157, 3, (some .int), 0, 0)
theorem dJ3_checkIndex_8e157 : dcheck cJ3_checkIndex_8e157 [(0, .iload_n 0, 1), (1, .ifCond .lt 8, 3), (4, .iload_n 0, 1), (5, .iload_n 1, 1), (6, .if_icmp .lt 10, 3), (9, .aload_n 2, 1), (10, .iload_n 0, 1), (11, .iload_n 1, 1), (12, .invokestatic 95, 3), (15, .athrow, 1), (16, .iload_n 0, 1), (17, .ireturn, 1)] = true := by decide +kernel
theorem cw_J3_checkIndex {k : Cd} (h1 : kJ3_checkIndex.2.2.2.2.1 + 1 ≤ k.2.2.2.2.1) (h2 : 8 + (kJ3_checkIndex.2.2.1 + 11) + kJ3_checkIndex.2.2.2.2.2 ≤ k.2.2.2.2.2) : Cw k kJ3_checkIndex 3 := ⟨wcode_J3_checkIndex_8e157, wini_jdk_internal_util_Preconditions, ⟨by decide, by decide, by decide +kernel⟩, h1, h2⟩
def J3_checkIndex_j9 (v0 : Int32) (v1 : Int32) (h : AHeap) : Option (Int32 × AHeap) :=
  none
theorem J3_checkIndex_j9_J {E : JE} {l : Launch} {G : GX} {v : Int32} {h' : AHeap} (ok : JOK E l G kJ3_checkIndex 0 0 (some (.int v)) h') (v0 : Int32) (v1 : Int32) (h : AHeap) : J E kJ3_checkIndex (J3_checkIndex_j9 v0 v1 h) (fun z => z = (v, h')) 9 [some (.int v0), some (.int v1), none] [] h 0 0 := by
  unfold J3_checkIndex_j9
  exact fun z hz _ => by cases hz
def J3_checkIndex (v0 : Int32) (v1 : Int32) (h : AHeap) : Option (Int32 × AHeap) :=
  (if v0 < 0 then J3_checkIndex_j9 v0 v1 h else (if v0 < v1 then some (v0, h) else J3_checkIndex_j9 v0 v1 h))
theorem t_J3_checkIndex {l : Launch} {G : GX} {v0 : Int32} {v1 : Int32} {h : AHeap} {v : Int32} {h1 : AHeap} (hf : J3_checkIndex v0 v1 h = some (v, h1)) : CT l G kJ3_checkIndex 0 0 [.int v0, .int v1, .retAddr 0] h (some (.int v)) h1 := by
  refine CT_of (ls := [some (.int v0), some (.int v1), some (.retAddr 0)]) (Z := fun z => z = (v, h1)) (by decide +kernel) (Nat.le_of_ble_eq_true rfl) hf rfl ⟨rfl, rfl, rfl, trivial⟩ (fun E ok => ?_)
  unfold J3_checkIndex
  refine J_iload_n (pc' := 1) ok (dOf dJ3_checkIndex_8e157 0 rfl) rfl rfl rfl ?_
  refine J_if_lt (tgt := 9) (pc' := 4) ok (dOf dJ3_checkIndex_8e157 1 rfl) rfl (by decide) ?_ ?_
  · refine J_weak (ls' := [some (.int v0), some (.int v1), none]) ⟨rfl, rfl, trivial⟩ ?_
    exact J3_checkIndex_j9_J ok v0 v1 h
  · refine J_iload_n (pc' := 5) ok (dOf dJ3_checkIndex_8e157 2 rfl) rfl rfl rfl ?_
    refine J_iload_n (pc' := 6) ok (dOf dJ3_checkIndex_8e157 3 rfl) rfl rfl rfl ?_
    refine J_icmp_lt (tgt := 16) (pc' := 9) ok (dOf dJ3_checkIndex_8e157 4 rfl) rfl (by decide) ?_ ?_
    · refine J_iload_n (pc' := 17) ok (dOf dJ3_checkIndex_8e157 10 rfl) rfl rfl rfl ?_
      exact J_ireturn ok (dOf dJ3_checkIndex_8e157 11 rfl) rfl (Eq.refl 0) (Nat.le_refl 0)
    · refine J_weak (ls' := [some (.int v0), some (.int v1), none]) ⟨rfl, rfl, trivial⟩ ?_
      exact J3_checkIndex_j9_J ok v0 v1 h
-- J0_checkIndex_df160
abbrev kJ0_checkIndex : Cd := (yJ0_checkIndex_df160, cJ0_checkIndex_df160, 2, none, 1, 22)
theorem dJ0_checkIndex_df160 : dcheck cJ0_checkIndex_df160 [(0, .iload_n 0, 1), (1, .iload_n 1, 1), (2, .getstatic 1053, 3), (5, .invokestatic 1059, 3), (8, .pop, 1), (9, .return_, 1)] = true := by decide +kernel
theorem cw_J0_checkIndex {k : Cd} (h1 : kJ0_checkIndex.2.2.2.2.1 + 1 ≤ k.2.2.2.2.1) (h2 : 8 + (kJ0_checkIndex.2.2.1 + 11) + kJ0_checkIndex.2.2.2.2.2 ≤ k.2.2.2.2.2) : Cw k kJ0_checkIndex 2 := ⟨wcode_J0_checkIndex_df160, wini_java_lang_String, ⟨by decide, by decide, by decide +kernel⟩, h1, h2⟩
def J0_checkIndex (v0 : Int32) (v1 : Int32) (h : AHeap) : Option (Unit × AHeap) :=
  bnd2 (J3_checkIndex v0 v1 h) fun x2 h1 => some ((), h1)
theorem t_J0_checkIndex {l : Launch} {G : GX} {v0 : Int32} {v1 : Int32} {h : AHeap} {h1 : AHeap} (hf : J0_checkIndex v0 v1 h = some ((), h1)) : CT l G kJ0_checkIndex 0 0 [.int v0, .int v1] h none h1 := by
  refine CT_of (ls := [some (.int v0), some (.int v1)]) (Z := fun z => z = ((), h1)) (by decide +kernel) (Nat.le_of_ble_eq_true rfl) hf rfl ⟨rfl, rfl, trivial⟩ (fun E ok => ?_)
  unfold J0_checkIndex
  refine J_iload_n (pc' := 1) ok (dOf dJ0_checkIndex_df160 0 rfl) rfl rfl rfl ?_
  refine J_iload_n (pc' := 2) ok (dOf dJ0_checkIndex_df160 1 rfl) rfl rfl rfl ?_
  refine J_gsFmt (pc' := 5) ok (dOf dJ0_checkIndex_df160 2 rfl) rfl wfl_J0_1053 ?_
  refine J_callSi (k2 := kJ3_checkIndex) (as := [.int v0, .int v1, .retAddr 0]) (pc' := 8) ok (dOf dJ0_checkIndex_df160 3 rfl) rfl (cw_J3_checkIndex (by decide) (by decide)) wml_J0_1059 wstat_J3_checkIndex_8e157 ⟨Nat.le_refl 0, Nat.le_refl 0⟩ (Nat.le_of_ble_eq_true rfl) rfl (fun _ _ hf => t_J3_checkIndex hf) (fun x2 h1 => ?_)
  refine J_pop (pc' := 9) ok (dOf dJ0_checkIndex_df160 4 rfl) rfl rfl ?_
  exact J_vreturn ok (dOf dJ0_checkIndex_df160 5 rfl) rfl (Eq.refl 0) (Nat.le_refl 0)
-- J1_charAt_3b067
abbrev kJ1_charAt : Cd := (yJ1_charAt_3b067, cJ1_charAt_3b067, 2, (some .char), 2, 43)
theorem dJ1_charAt_3b067 : dcheck cJ1_charAt_3b067 [(0, .iload_n 1, 1), (1, .aload_n 0, 1), (2, .arraylength, 1), (3, .invokestatic 9, 3), (6, .aload_n 0, 1), (7, .iload_n 1, 1), (8, .baload, 1), (9, .sipush 255, 3), (12, .iand, 1), (13, .i2c, 1), (14, .ireturn, 1)] = true := by decide +kernel
theorem cw_J1_charAt {k : Cd} (h1 : kJ1_charAt.2.2.2.2.1 + 1 ≤ k.2.2.2.2.1) (h2 : 8 + (kJ1_charAt.2.2.1 + 11) + kJ1_charAt.2.2.2.2.2 ≤ k.2.2.2.2.2) : Cw k kJ1_charAt 2 := ⟨wcode_J1_charAt_3b067, wini_java_lang_StringLatin1, ⟨by decide, by decide, by decide +kernel⟩, h1, h2⟩
def J1_charAt (v0 : Nat) (v1 : Int32) (h : AHeap) : Option (Int32 × AHeap) :=
  (alen h v0).bind fun x1 => bnd2 (J0_checkIndex v1 x1 h) fun _ h2 => (ald 2 h2 v0 v1).bind fun x3 => (nrw .char (((x3 &&& 255).toUInt32 % 65536).toInt32)).bind fun z => some (z, h2)
theorem t_J1_charAt {l : Launch} {G : GX} {v0 : Nat} {v1 : Int32} {h : AHeap} {v : Int32} {h1 : AHeap} (hf : J1_charAt v0 v1 h = some (v, h1)) : CT l G kJ1_charAt 0 0 [.ref v0, .int v1] h (some (.int v)) h1 := by
  refine CT_of (ls := [some (.ref v0), some (.int v1)]) (Z := fun z => z = (v, h1)) (by decide +kernel) (Nat.le_of_ble_eq_true rfl) hf rfl ⟨rfl, rfl, trivial⟩ (fun E ok => ?_)
  unfold J1_charAt
  refine J_iload_n (pc' := 1) ok (dOf dJ1_charAt_3b067 0 rfl) rfl rfl rfl ?_
  refine J_aload_n (pc' := 2) ok (dOf dJ1_charAt_3b067 1 rfl) rfl rfl rfl ?_
  refine J_alen (pc' := 3) ok (dOf dJ1_charAt_3b067 2 rfl) rfl (fun x1 => ?_)
  refine J_callSv (k2 := kJ0_checkIndex) (as := [.int v1, .int x1]) (pc' := 6) ok (dOf dJ1_charAt_3b067 3 rfl) rfl (cw_J0_checkIndex (by decide) (by decide)) wml_J1_9 wstat_J0_checkIndex_df160 ⟨Nat.le_refl 0, Nat.le_refl 0⟩ (Nat.le_of_ble_eq_true rfl) rfl (fun _ _ hf => t_J0_checkIndex hf) (fun _ h2 => ?_)
  refine J_aload_n (pc' := 7) ok (dOf dJ1_charAt_3b067 4 rfl) rfl rfl rfl ?_
  refine J_iload_n (pc' := 8) ok (dOf dJ1_charAt_3b067 5 rfl) rfl rfl rfl ?_
  refine J_bald (pc' := 9) ok (dOf dJ1_charAt_3b067 6 rfl) rfl (fun x3 => ?_)
  refine J_sipush (v := 255) (pc' := 12) ok (dOf dJ1_charAt_3b067 7 rfl) rfl (by decide) ?_
  refine J_iand (pc' := 13) ok (dOf dJ1_charAt_3b067 8 rfl) rfl ?_
  refine J_i2c (pc' := 14) ok (dOf dJ1_charAt_3b067 9 rfl) rfl ?_
  exact J_nreturn ok (dOf dJ1_charAt_3b067 10 rfl) rfl (Eq.refl 0) (Nat.le_refl 0)
-- J0_charAt_5068e
abbrev kJ0_charAt : Cd := (yJ0_charAt_5068e, cJ0_charAt_5068e, 2, (some .char), 3, 64)
theorem dJ0_charAt_5068e : dcheck cJ0_charAt_5068e [(0, .aload_n 0, 1), (1, .invokevirtual 492, 3), (4, .ifCond .eq 12, 3), (7, .aload_n 0, 1), (8, .getfield 9, 3), (11, .iload_n 1, 1), (12, .invokestatic 495, 3), (15, .ireturn, 1), (16, .aload_n 0, 1), (17, .getfield 9, 3), (20, .iload_n 1, 1), (21, .invokestatic 498, 3), (24, .ireturn, 1)] = true := by decide +kernel
theorem cw_J0_charAt {k : Cd} (h1 : kJ0_charAt.2.2.2.2.1 + 1 ≤ k.2.2.2.2.1) (h2 : 8 + (kJ0_charAt.2.2.1 + 11) + kJ0_charAt.2.2.2.2.2 ≤ k.2.2.2.2.2) : Cw k kJ0_charAt 1 := ⟨wcode_J0_charAt_5068e, wini_java_lang_String, ⟨by decide, by decide, by decide +kernel⟩, h1, h2⟩
def J0_charAt (v0 : Nat) (v1 : Int32) (h : AHeap) : Option (Int32 × AHeap) :=
  (chkS v0).bind fun _ => bnd2 (J0_isLatin1 v0 h) fun x2 h1 => (if x2 = 0 then (gfR h1 v0 100 0).bind fun a3 => none else (gfR h1 v0 100 0).bind fun a4 => bnd2 (J1_charAt a4 v1 h1) fun x6 h5 => (nrw .char x6).bind fun z => some (z, h5))
theorem t_J0_charAt {l : Launch} {G : GX} {v0 : Nat} {v1 : Int32} {h : AHeap} {v : Int32} {h1 : AHeap} (hf : J0_charAt v0 v1 h = some (v, h1)) : CT l G kJ0_charAt 0 0 [.ref v0, .int v1] h (some (.int v)) h1 := by
  refine CT_of (ls := [some (.ref v0), some (.int v1)]) (Z := fun z => z = (v, h1)) (by decide +kernel) (Nat.le_of_ble_eq_true rfl) hf rfl ⟨rfl, rfl, trivial⟩ (fun E ok => ?_)
  unfold J0_charAt
  refine J_aload_n (pc' := 1) ok (dOf dJ0_charAt_5068e 0 rfl) rfl rfl rfl ?_
  refine J_callSVi (k2 := kJ0_isLatin1) (as := []) (pc' := 4) ok (dOf dJ0_charAt_5068e 1 rfl) rfl (cw_J0_isLatin1 (by decide) (by decide)) wml_J0_492 winst_J0_isLatin1_aae02 wsel_J0_isLatin1_aae02 rfl ⟨Nat.le_refl 0, Nat.le_refl 0⟩ (Nat.le_of_ble_eq_true rfl) rfl (fun _ _ hf => t_J0_isLatin1 hf) (fun x2 h1 => ?_)
  refine J_if_eq (tgt := 16) (pc' := 7) ok (dOf dJ0_charAt_5068e 2 rfl) rfl (by decide) ?_ ?_
  · refine J_aload_n (pc' := 17) ok (dOf dJ0_charAt_5068e 8 rfl) rfl rfl rfl ?_
    refine J_strV (pc' := 20) ok (dOf dJ0_charAt_5068e 9 rfl) rfl wfl_J0_9 (fun a3 => ?_)
    refine J_iload_n (pc' := 21) ok (dOf dJ0_charAt_5068e 10 rfl) rfl rfl rfl ?_
    exact fun z hz _ => by cases hz
  · refine J_aload_n (pc' := 8) ok (dOf dJ0_charAt_5068e 3 rfl) rfl rfl rfl ?_
    refine J_strV (pc' := 11) ok (dOf dJ0_charAt_5068e 4 rfl) rfl wfl_J0_9 (fun a4 => ?_)
    refine J_iload_n (pc' := 12) ok (dOf dJ0_charAt_5068e 5 rfl) rfl rfl rfl ?_
    refine J_callSi (k2 := kJ1_charAt) (as := [.ref a4, .int v1]) (pc' := 15) ok (dOf dJ0_charAt_5068e 6 rfl) rfl (cw_J1_charAt (by decide) (by decide)) wml_J0_495 wstat_J1_charAt_3b067 ⟨Nat.le_refl 0, Nat.le_refl 0⟩ (Nat.le_of_ble_eq_true rfl) rfl (fun _ _ hf => t_J1_charAt hf) (fun x6 h5 => ?_)
    exact J_nreturn ok (dOf dJ0_charAt_5068e 7 rfl) rfl (Eq.refl 0) (Nat.le_refl 0)
-- X9_isWord
abbrev kTape_isWord : Cd := (yX9_isWord, cX9_isWord, 3, (some .boolean), 4, 85)
theorem dX9_isWord : dcheck cX9_isWord [(0, .aload_n 0, 1), (1, .getfield 40, 3), (4, .iconst 1, 1), (5, .if_icmp .ne 19, 3), (8, .aload_n 0, 1), (9, .getfield 27, 3), (12, .aload_n 0, 1), (13, .getfield 37, 3), (16, .isub, 1), (17, .aload_n 1, 1), (18, .invokevirtual 47, 3), (21, .if_icmp .eq 5, 3), (24, .iconst 0, 1), (25, .ireturn, 1), (26, .iconst 0, 1), (27, .istore_n 2, 1), (28, .iload_n 2, 1), (29, .aload_n 1, 1), (30, .invokevirtual 47, 3), (33, .if_icmp .ge 30, 3), (36, .aload_n 0, 1), (37, .getfield 11, 3), (40, .aload_n 0, 1), (41, .getfield 37, 3), (44, .iload_n 2, 1), (45, .iadd, 1), (46, .baload, 1), (47, .aload_n 1, 1), (48, .iload_n 2, 1), (49, .invokevirtual 52, 3), (52, .if_icmp .eq 5, 3), (55, .iconst 0, 1), (56, .ireturn, 1), (57, .iinc 2 1, 3), (60, .goto (-32), 3), (63, .iconst 1, 1), (64, .ireturn, 1)] = true := by decide +kernel
theorem cw_Tape_isWord {k : Cd} (h1 : kTape_isWord.2.2.2.2.1 + 1 ≤ k.2.2.2.2.1) (h2 : 8 + (kTape_isWord.2.2.1 + 11) + kTape_isWord.2.2.2.2.2 ≤ k.2.2.2.2.2) : Cw k kTape_isWord 1 := ⟨wcode_X9_isWord, wini_SplitProgram_Tape, ⟨by decide, by decide, by decide +kernel⟩, h1, h2⟩
def Tape_isWord_j24 (v0 : Nat) (v1 : Nat) (h : AHeap) : Option (Int32 × AHeap) :=
  (bz 0).bind fun z => some (z, h)
theorem Tape_isWord_j24_J {E : JE} {l : Launch} {G : GX} {v : Int32} {h' : AHeap} (ok : JOK E l G kTape_isWord 0 0 (some (.int v)) h') (v0 : Nat) (v1 : Nat) (h : AHeap) : J E kTape_isWord (Tape_isWord_j24 v0 v1 h) (fun z => z = (v, h')) 24 [some (.ref v0), some (.ref v1), none] [] h 0 0 := by
  unfold Tape_isWord_j24
  refine J_iconst (v := 0) (pc' := 25) ok (dOf dX9_isWord 12 rfl) rfl (by decide) ?_
  exact J_zreturn ok (dOf dX9_isWord 13 rfl) rfl (Eq.refl 0) (Nat.le_refl 0)
def Tape_isWord_b28 (v0 : Nat) (v1 : Nat) (s : Int32 × AHeap) : Option ((Int32 × AHeap) ⊕ ((Int32 × AHeap) ⊕ (Int32 × AHeap))) :=
  (chkS v1).bind fun _ => bnd2 (J0_length v1 s.2) fun x7 h6 => (if x7 ≤ s.1 then some (Sum.inr (Sum.inr (s.1, h6))) else (gfR h6 v0 9 0).bind fun a8 => (gfI h6 v0 9 3).bind fun x9 => (ald 2 h6 a8 (x9 + s.1)).bind fun x10 => (chkS v1).bind fun _ => bnd2 (J0_charAt v1 s.1 h6) fun x12 h11 => (if x10 = x12 then some (Sum.inl (s.1 + 1, h11)) else some (Sum.inr (Sum.inl (s.1, h11)))))
theorem Tape_isWord_b28_J {E : JE} {l : Launch} {G : GX} {r : Option Value} {h' : AHeap} (ok : JOK E l G kTape_isWord 0 0 r h') (v0 : Nat) (v1 : Nat) {Y : (Int32 × AHeap) ⊕ ((Int32 × AHeap) ⊕ (Int32 × AHeap)) → Prop} (k1 : ∀ s' : Int32 × AHeap, Y (.inl s') → JW E kTape_isWord 28 [some (.ref v0), some (.ref v1), some (.int s'.1)] [] s'.2 0 0) (kx55 : ∀ q : Int32 × AHeap, Y (.inr (Sum.inl q)) → JW E kTape_isWord 55 [some (.ref v0), some (.ref v1), some (.int q.1)] [] q.2 0 0) (kx63 : ∀ q : Int32 × AHeap, Y (.inr (Sum.inr q)) → JW E kTape_isWord 63 [some (.ref v0), some (.ref v1), some (.int q.1)] [] q.2 0 0) (s : Int32 × AHeap) : J E kTape_isWord (Tape_isWord_b28 v0 v1 s) Y 28 [some (.ref v0), some (.ref v1), some (.int s.1)] [] s.2 0 0 := by
  unfold Tape_isWord_b28
  refine J_iload_n (pc' := 29) ok (dOf dX9_isWord 16 rfl) rfl rfl rfl ?_
  refine J_aload_n (pc' := 30) ok (dOf dX9_isWord 17 rfl) rfl rfl rfl ?_
  refine J_callSVi (k2 := kJ0_length) (as := []) (pc' := 33) ok (dOf dX9_isWord 18 rfl) rfl (cw_J0_length (by decide) (by decide)) wml_X9_47 winst_J0_length_8abf5 wsel_J0_length_8abf5 rfl ⟨Nat.le_refl 0, Nat.le_refl 0⟩ (Nat.le_of_ble_eq_true rfl) rfl (fun _ _ hf => t_J0_length hf) (fun x7 h6 => ?_)
  refine J_icmp_ge (tgt := 63) (pc' := 36) ok (dOf dX9_isWord 19 rfl) rfl (by decide) ?_ ?_
  · exact J_fin (kx63 (s.1, h6))
  · refine J_aload_n (pc' := 37) ok (dOf dX9_isWord 20 rfl) rfl rfl rfl ?_
    refine J_getR (ci := 9) (kf := 0) (C := RX9) (T := TX9) (N := 6) (pc' := 40) ok (dOf dX9_isWord 21 rfl) rfl (by decide) rfl (by decide) win_9 wfl_X9_11 (fun a8 => ?_)
    refine J_aload_n (pc' := 41) ok (dOf dX9_isWord 22 rfl) rfl rfl rfl ?_
    refine J_getI (ci := 9) (kf := 3) (C := RX9) (T := TX9) (N := 6) (pc' := 44) ok (dOf dX9_isWord 23 rfl) rfl (by decide) rfl (by decide) win_9 wfl_X9_37 (fun x9 => ?_)
    refine J_iload_n (pc' := 45) ok (dOf dX9_isWord 24 rfl) rfl rfl rfl ?_
    refine J_iadd (pc' := 46) ok (dOf dX9_isWord 25 rfl) rfl ?_
    refine J_bald (pc' := 47) ok (dOf dX9_isWord 26 rfl) rfl (fun x10 => ?_)
    refine J_aload_n (pc' := 48) ok (dOf dX9_isWord 27 rfl) rfl rfl rfl ?_
    refine J_iload_n (pc' := 49) ok (dOf dX9_isWord 28 rfl) rfl rfl rfl ?_
    refine J_callSVi (k2 := kJ0_charAt) (as := [.int s.1]) (pc' := 52) ok (dOf dX9_isWord 29 rfl) rfl (cw_J0_charAt (by decide) (by decide)) wml_X9_52 winst_J0_charAt_5068e wsel_J0_charAt_5068e rfl ⟨Nat.le_refl 0, Nat.le_refl 0⟩ (Nat.le_of_ble_eq_true rfl) rfl (fun _ _ hf => t_J0_charAt hf) (fun x12 h11 => ?_)
    refine J_icmp_eq (tgt := 57) (pc' := 55) ok (dOf dX9_isWord 30 rfl) rfl (by decide) ?_ ?_
    · refine J_iinc (v := s.1 + 1) (ls' := [some (.ref v0), some (.ref v1), some (.int (s.1 + 1))]) (pc' := 60) ok (dOf dX9_isWord 33 rfl) rfl rfl (by rfl) (Nat.le_of_ble_eq_true rfl) rfl rfl ?_
      refine J_goto (tgt := 28) ok (dOf dX9_isWord 34 rfl) (by decide) ?_
      exact J_fin (k1 (s.1 + 1, h11))
    · exact J_fin (kx55 (s.1, h11))
def Tape_isWord_j55 (v0 : Nat) (v1 : Nat) (v2 : Int32) (h : AHeap) : Option (Int32 × AHeap) :=
  (bz 0).bind fun z => some (z, h)
theorem Tape_isWord_j55_J {E : JE} {l : Launch} {G : GX} {v : Int32} {h' : AHeap} (ok : JOK E l G kTape_isWord 0 0 (some (.int v)) h') (v0 : Nat) (v1 : Nat) (v2 : Int32) (h : AHeap) : J E kTape_isWord (Tape_isWord_j55 v0 v1 v2 h) (fun z => z = (v, h')) 55 [some (.ref v0), some (.ref v1), some (.int v2)] [] h 0 0 := by
  unfold Tape_isWord_j55
  refine J_iconst (v := 0) (pc' := 56) ok (dOf dX9_isWord 31 rfl) rfl (by decide) ?_
  exact J_zreturn ok (dOf dX9_isWord 32 rfl) rfl (Eq.refl 0) (Nat.le_refl 0)
def Tape_isWord_j63 (v0 : Nat) (v1 : Nat) (v2 : Int32) (h : AHeap) : Option (Int32 × AHeap) :=
  (bz 1).bind fun z => some (z, h)
theorem Tape_isWord_j63_J {E : JE} {l : Launch} {G : GX} {v : Int32} {h' : AHeap} (ok : JOK E l G kTape_isWord 0 0 (some (.int v)) h') (v0 : Nat) (v1 : Nat) (v2 : Int32) (h : AHeap) : J E kTape_isWord (Tape_isWord_j63 v0 v1 v2 h) (fun z => z = (v, h')) 63 [some (.ref v0), some (.ref v1), some (.int v2)] [] h 0 0 := by
  unfold Tape_isWord_j63
  refine J_iconst (v := 1) (pc' := 64) ok (dOf dX9_isWord 35 rfl) rfl (by decide) ?_
  exact J_zreturn ok (dOf dX9_isWord 36 rfl) rfl (Eq.refl 0) (Nat.le_refl 0)
def Tape_isWord (v0 : Nat) (v1 : Nat) (h : AHeap) : Option (Int32 × AHeap) :=
  (gfI h v0 9 5).bind fun x1 => (if ¬ x1 = 1 then Tape_isWord_j24 v0 v1 h else (gfI h v0 9 4).bind fun x2 => (gfI h v0 9 3).bind fun x3 => (chkS v1).bind fun _ => bnd2 (J0_length v1 h) fun x5 h4 => (if (x2 - x3) = x5 then (iter (Tape_isWord_b28 v0 v1) Lmax (0, h4)).bind (Sum.elim (fun (q28 : Int32 × AHeap) => Tape_isWord_j55 v0 v1 q28.1 q28.2) (fun (q28 : Int32 × AHeap) => Tape_isWord_j63 v0 v1 q28.1 q28.2)) else Tape_isWord_j24 v0 v1 h4))
theorem t_Tape_isWord {l : Launch} {G : GX} {v0 : Nat} {v1 : Nat} {h : AHeap} {v : Int32} {h1 : AHeap} (hf : Tape_isWord v0 v1 h = some (v, h1)) : CT l G kTape_isWord 0 0 [.ref v0, .ref v1] h (some (.int v)) h1 := by
  refine CT_of (ls := [some (.ref v0), some (.ref v1), none]) (Z := fun z => z = (v, h1)) (by decide +kernel) (Nat.le_of_ble_eq_true rfl) hf rfl ⟨rfl, rfl, trivial⟩ (fun E ok => ?_)
  unfold Tape_isWord
  refine J_aload_n (pc' := 1) ok (dOf dX9_isWord 0 rfl) rfl rfl rfl ?_
  refine J_getI (ci := 9) (kf := 5) (C := RX9) (T := TX9) (N := 6) (pc' := 4) ok (dOf dX9_isWord 1 rfl) rfl (by decide) rfl (by decide) win_9 wfl_X9_40 (fun x1 => ?_)
  refine J_iconst (v := 1) (pc' := 5) ok (dOf dX9_isWord 2 rfl) rfl (by decide) ?_
  refine J_icmp_ne (tgt := 24) (pc' := 8) ok (dOf dX9_isWord 3 rfl) rfl (by decide) ?_ ?_
  · exact Tape_isWord_j24_J ok v0 v1 h
  · refine J_aload_n (pc' := 9) ok (dOf dX9_isWord 4 rfl) rfl rfl rfl ?_
    refine J_getI (ci := 9) (kf := 4) (C := RX9) (T := TX9) (N := 6) (pc' := 12) ok (dOf dX9_isWord 5 rfl) rfl (by decide) rfl (by decide) win_9 wfl_X9_27 (fun x2 => ?_)
    refine J_aload_n (pc' := 13) ok (dOf dX9_isWord 6 rfl) rfl rfl rfl ?_
    refine J_getI (ci := 9) (kf := 3) (C := RX9) (T := TX9) (N := 6) (pc' := 16) ok (dOf dX9_isWord 7 rfl) rfl (by decide) rfl (by decide) win_9 wfl_X9_37 (fun x3 => ?_)
    refine J_isub (pc' := 17) ok (dOf dX9_isWord 8 rfl) rfl ?_
    refine J_aload_n (pc' := 18) ok (dOf dX9_isWord 9 rfl) rfl rfl rfl ?_
    refine J_callSVi (k2 := kJ0_length) (as := []) (pc' := 21) ok (dOf dX9_isWord 10 rfl) rfl (cw_J0_length (by decide) (by decide)) wml_X9_47 winst_J0_length_8abf5 wsel_J0_length_8abf5 rfl ⟨Nat.le_refl 0, Nat.le_refl 0⟩ (Nat.le_of_ble_eq_true rfl) rfl (fun _ _ hf => t_J0_length hf) (fun x5 h4 => ?_)
    refine J_icmp_eq (tgt := 26) (pc' := 24) ok (dOf dX9_isWord 11 rfl) rfl (by decide) ?_ ?_
    · refine J_iconst (v := 0) (pc' := 27) ok (dOf dX9_isWord 14 rfl) rfl (by decide) ?_
      refine J_istore_n (ls' := [some (.ref v0), some (.ref v1), some (.int 0)]) (pc' := 28) ok (dOf dX9_isWord 15 rfl) rfl rfl (Nat.le_of_ble_eq_true rfl) rfl rfl ?_
      refine J_iter (lf := fun z28 => [some (.ref v0), some (.ref v1), some (.int z28.1)]) (sf := fun _ => []) (hf := fun z28 => z28.2) (px := (Sum.elim (fun (q28 : Int32 × AHeap) => 55) (fun (q28 : Int32 × AHeap) => 63))) (lx := (Sum.elim (fun (q28 : Int32 × AHeap) => [some (.ref v0), some (.ref v1), some (.int q28.1)]) (fun (q28 : Int32 × AHeap) => [some (.ref v0), some (.ref v1), some (.int q28.1)]))) (sx := (Sum.elim (fun (q28 : Int32 × AHeap) => []) (fun (q28 : Int32 × AHeap) => []))) (hx := (Sum.elim (fun (q28 : Int32 × AHeap) => q28.2) (fun (q28 : Int32 × AHeap) => q28.2))) (fun Y2 z28 m1 m2 => Tape_isWord_b28_J ok v0 v1 m1 (fun q hq => m2 (Sum.inl q) hq) (fun q hq => m2 (Sum.inr q) hq) z28) (fun q28 => ?_) Lmax _
      rcases q28 with q28 | q28
      · show J E kTape_isWord (Tape_isWord_j55 v0 v1 q28.1 q28.2) _ 55 [some (.ref v0), some (.ref v1), some (.int q28.1)] [] q28.2 0 0
        exact Tape_isWord_j55_J ok v0 v1 q28.1 q28.2
      · show J E kTape_isWord (Tape_isWord_j63 v0 v1 q28.1 q28.2) _ 63 [some (.ref v0), some (.ref v1), some (.int q28.1)] [] q28.2 0 0
        exact Tape_isWord_j63_J ok v0 v1 q28.1 q28.2
    · exact Tape_isWord_j24_J ok v0 v1 h4
-- X9_peekNumber
abbrev kTape_peekNumber : Cd := (yX9_peekNumber, cX9_peekNumber, 5, (some .int), 1, 21)
theorem dX9_peekNumber : dcheck cX9_peekNumber [(0, .aload_n 0, 1), (1, .getfield 40, 3), (4, .iconst 2, 1), (5, .if_icmp .eq 5, 3), (8, .iconst (-1), 1), (9, .ireturn, 1), (10, .iconst 0, 1), (11, .istore_n 3, 1), (12, .aload_n 0, 1), (13, .getfield 37, 3), (16, .istore 4, 2), (18, .iload 4, 2), (20, .aload_n 0, 1), (21, .getfield 27, 3), (24, .if_icmp .ge 30, 3), (27, .iload_n 3, 1), (28, .bipush 10, 2), (30, .imul, 1), (31, .aload_n 0, 1), (32, .getfield 11, 3), (35, .iload 4, 2), (37, .baload, 1), (38, .iadd, 1), (39, .bipush 48, 2), (41, .isub, 1), (42, .ldc 56, 2), (44, .invokestatic 57, 3), (47, .istore_n 3, 1), (48, .iinc 4 1, 3), (51, .goto (-33), 3), (54, .iload_n 3, 1), (55, .iload_n 1, 1), (56, .if_icmp .lt 8, 3), (59, .iload_n 3, 1), (60, .iload_n 2, 1), (61, .if_icmp .le 7, 3), (64, .iconst (-1), 1), (65, .goto 4, 3), (68, .iload_n 3, 1), (69, .ireturn, 1)] = true := by decide +kernel
theorem cw_Tape_peekNumber {k : Cd} (h1 : kTape_peekNumber.2.2.2.2.1 + 1 ≤ k.2.2.2.2.1) (h2 : 8 + (kTape_peekNumber.2.2.1 + 11) + kTape_peekNumber.2.2.2.2.2 ≤ k.2.2.2.2.2) : Cw k kTape_peekNumber 2 := ⟨wcode_X9_peekNumber, wini_SplitProgram_Tape, ⟨by decide, by decide, by decide +kernel⟩, h1, h2⟩
def Tape_peekNumber_b18 (v0 : Nat) (v1 : Int32) (v2 : Int32) (h : AHeap) (s : Int32 × Int32) : Option ((Int32 × Int32) ⊕ ((Int32 × Int32))) :=
  (gfI h v0 9 4).bind fun x3 => (if x3 ≤ s.2 then some (Sum.inr (s.1, s.2)) else (gfR h v0 9 0).bind fun a4 => (ald 2 h a4 s.2).bind fun x5 => some (Sum.inl ((if 1000000 < (((s.1 * 10) + x5) - 48) then 1000000 else (((s.1 * 10) + x5) - 48)), s.2 + 1)))
theorem Tape_peekNumber_b18_J {E : JE} {l : Launch} {G : GX} {r : Option Value} {h' : AHeap} (ok : JOK E l G kTape_peekNumber 0 0 r h') (v0 : Nat) (v1 : Int32) (v2 : Int32) (h : AHeap) {Y : (Int32 × Int32) ⊕ ((Int32 × Int32)) → Prop} (k1 : ∀ s' : Int32 × Int32, Y (.inl s') → JW E kTape_peekNumber 18 [some (.ref v0), some (.int v1), some (.int v2), some (.int s'.1), some (.int s'.2)] [] h 0 0) (kx54 : ∀ q : Int32 × Int32, Y (.inr q) → JW E kTape_peekNumber 54 [some (.ref v0), some (.int v1), some (.int v2), some (.int q.1), some (.int q.2)] [] h 0 0) (s : Int32 × Int32) : J E kTape_peekNumber (Tape_peekNumber_b18 v0 v1 v2 h s) Y 18 [some (.ref v0), some (.int v1), some (.int v2), some (.int s.1), some (.int s.2)] [] h 0 0 := by
  unfold Tape_peekNumber_b18
  refine J_iload (pc' := 20) ok (dOf dX9_peekNumber 11 rfl) rfl rfl ?_
  refine J_aload_n (pc' := 21) ok (dOf dX9_peekNumber 12 rfl) rfl rfl rfl ?_
  refine J_getI (ci := 9) (kf := 4) (C := RX9) (T := TX9) (N := 6) (pc' := 24) ok (dOf dX9_peekNumber 13 rfl) rfl (by decide) rfl (by decide) win_9 wfl_X9_27 (fun x3 => ?_)
  refine J_icmp_ge (tgt := 54) (pc' := 27) ok (dOf dX9_peekNumber 14 rfl) rfl (by decide) ?_ ?_
  · exact J_fin (kx54 (s.1, s.2))
  · refine J_iload_n (pc' := 28) ok (dOf dX9_peekNumber 15 rfl) rfl rfl rfl ?_
    refine J_bipush (v := 10) (pc' := 30) ok (dOf dX9_peekNumber 16 rfl) rfl (by decide) ?_
    refine J_imul (pc' := 31) ok (dOf dX9_peekNumber 17 rfl) rfl ?_
    refine J_aload_n (pc' := 32) ok (dOf dX9_peekNumber 18 rfl) rfl rfl rfl ?_
    refine J_getR (ci := 9) (kf := 0) (C := RX9) (T := TX9) (N := 6) (pc' := 35) ok (dOf dX9_peekNumber 19 rfl) rfl (by decide) rfl (by decide) win_9 wfl_X9_11 (fun a4 => ?_)
    refine J_iload (pc' := 37) ok (dOf dX9_peekNumber 20 rfl) rfl rfl ?_
    refine J_bald (pc' := 38) ok (dOf dX9_peekNumber 21 rfl) rfl (fun x5 => ?_)
    refine J_iadd (pc' := 39) ok (dOf dX9_peekNumber 22 rfl) rfl ?_
    refine J_bipush (v := 48) (pc' := 41) ok (dOf dX9_peekNumber 23 rfl) rfl (by decide) ?_
    refine J_isub (pc' := 42) ok (dOf dX9_peekNumber 24 rfl) rfl ?_
    refine J_ldc (v := 1000000) (pc' := 44) ok (dOf dX9_peekNumber 25 rfl) rfl wcon_X9_56 ?_
    refine J_mmin (pc' := 47) ok (dOf dX9_peekNumber 26 rfl) rfl wml_X9_57 wstat_J9_min_7cf53 wini_java_lang_Math wcode_J9_min_7cf53 (Nat.le_of_ble_eq_true rfl) (Nat.le_of_ble_eq_true rfl) (Nat.le_refl 0) (Nat.le_refl 0) ?_
    refine J_istore_n (ls' := [some (.ref v0), some (.int v1), some (.int v2), some (.int (if 1000000 < (((s.1 * 10) + x5) - 48) then 1000000 else (((s.1 * 10) + x5) - 48))), some (.int s.2)]) (pc' := 48) ok (dOf dX9_peekNumber 27 rfl) rfl rfl (Nat.le_of_ble_eq_true rfl) rfl rfl ?_
    refine J_iinc (v := s.2 + 1) (ls' := [some (.ref v0), some (.int v1), some (.int v2), some (.int (if 1000000 < (((s.1 * 10) + x5) - 48) then 1000000 else (((s.1 * 10) + x5) - 48))), some (.int (s.2 + 1))]) (pc' := 51) ok (dOf dX9_peekNumber 28 rfl) rfl rfl (by rfl) (Nat.le_of_ble_eq_true rfl) rfl rfl ?_
    refine J_goto (tgt := 18) ok (dOf dX9_peekNumber 29 rfl) (by decide) ?_
    exact J_fin (k1 ((if 1000000 < (((s.1 * 10) + x5) - 48) then 1000000 else (((s.1 * 10) + x5) - 48)), s.2 + 1))
def Tape_peekNumber_j69 (v0 : Nat) (v1 : Int32) (v2 : Int32) (v3 : Int32) (v4 : Int32) (t0 : Int32) (h : AHeap) : Option (Int32 × AHeap) :=
  some (t0, h)
theorem Tape_peekNumber_j69_J {E : JE} {l : Launch} {G : GX} {v : Int32} {h' : AHeap} (ok : JOK E l G kTape_peekNumber 0 0 (some (.int v)) h') (v0 : Nat) (v1 : Int32) (v2 : Int32) (v3 : Int32) (v4 : Int32) (t0 : Int32) (h : AHeap) : J E kTape_peekNumber (Tape_peekNumber_j69 v0 v1 v2 v3 v4 t0 h) (fun z => z = (v, h')) 69 [some (.ref v0), some (.int v1), some (.int v2), some (.int v3), some (.int v4)] [.int t0] h 0 0 := by
  unfold Tape_peekNumber_j69
  exact J_ireturn ok (dOf dX9_peekNumber 39 rfl) rfl (Eq.refl 0) (Nat.le_refl 0)
def Tape_peekNumber_j64 (v0 : Nat) (v1 : Int32) (v2 : Int32) (v3 : Int32) (v4 : Int32) (h : AHeap) : Option (Int32 × AHeap) :=
  Tape_peekNumber_j69 v0 v1 v2 v3 v4 (-1) h
theorem Tape_peekNumber_j64_J {E : JE} {l : Launch} {G : GX} {v : Int32} {h' : AHeap} (ok : JOK E l G kTape_peekNumber 0 0 (some (.int v)) h') (v0 : Nat) (v1 : Int32) (v2 : Int32) (v3 : Int32) (v4 : Int32) (h : AHeap) : J E kTape_peekNumber (Tape_peekNumber_j64 v0 v1 v2 v3 v4 h) (fun z => z = (v, h')) 64 [some (.ref v0), some (.int v1), some (.int v2), some (.int v3), some (.int v4)] [] h 0 0 := by
  unfold Tape_peekNumber_j64
  refine J_iconst (v := (-1)) (pc' := 65) ok (dOf dX9_peekNumber 36 rfl) rfl (by decide) ?_
  refine J_goto (tgt := 69) ok (dOf dX9_peekNumber 37 rfl) (by decide) ?_
  exact Tape_peekNumber_j69_J ok v0 v1 v2 v3 v4 (-1) h
def Tape_peekNumber_j54 (v0 : Nat) (v1 : Int32) (v2 : Int32) (v3 : Int32) (v4 : Int32) (h : AHeap) : Option (Int32 × AHeap) :=
  (if v3 < v1 then Tape_peekNumber_j64 v0 v1 v2 v3 v4 h else (if v3 ≤ v2 then Tape_peekNumber_j69 v0 v1 v2 v3 v4 v3 h else Tape_peekNumber_j64 v0 v1 v2 v3 v4 h))
theorem Tape_peekNumber_j54_J {E : JE} {l : Launch} {G : GX} {v : Int32} {h' : AHeap} (ok : JOK E l G kTape_peekNumber 0 0 (some (.int v)) h') (v0 : Nat) (v1 : Int32) (v2 : Int32) (v3 : Int32) (v4 : Int32) (h : AHeap) : J E kTape_peekNumber (Tape_peekNumber_j54 v0 v1 v2 v3 v4 h) (fun z => z = (v, h')) 54 [some (.ref v0), some (.int v1), some (.int v2), some (.int v3), some (.int v4)] [] h 0 0 := by
  unfold Tape_peekNumber_j54
  refine J_iload_n (pc' := 55) ok (dOf dX9_peekNumber 30 rfl) rfl rfl rfl ?_
  refine J_iload_n (pc' := 56) ok (dOf dX9_peekNumber 31 rfl) rfl rfl rfl ?_
  refine J_icmp_lt (tgt := 64) (pc' := 59) ok (dOf dX9_peekNumber 32 rfl) rfl (by decide) ?_ ?_
  · exact Tape_peekNumber_j64_J ok v0 v1 v2 v3 v4 h
  · refine J_iload_n (pc' := 60) ok (dOf dX9_peekNumber 33 rfl) rfl rfl rfl ?_
    refine J_iload_n (pc' := 61) ok (dOf dX9_peekNumber 34 rfl) rfl rfl rfl ?_
    refine J_icmp_le (tgt := 68) (pc' := 64) ok (dOf dX9_peekNumber 35 rfl) rfl (by decide) ?_ ?_
    · refine J_iload_n (pc' := 69) ok (dOf dX9_peekNumber 38 rfl) rfl rfl rfl ?_
      exact Tape_peekNumber_j69_J ok v0 v1 v2 v3 v4 v3 h
    · exact Tape_peekNumber_j64_J ok v0 v1 v2 v3 v4 h
def Tape_peekNumber (v0 : Nat) (v1 : Int32) (v2 : Int32) (h : AHeap) : Option (Int32 × AHeap) :=
  (gfI h v0 9 5).bind fun x1 => (if x1 = 2 then (gfI h v0 9 3).bind fun x2 => (iter (Tape_peekNumber_b18 v0 v1 v2 h) Lmax (0, x2)).bind (fun (q18 : Int32 × Int32) => Tape_peekNumber_j54 v0 v1 v2 q18.1 q18.2 h) else some ((-1), h))
theorem t_Tape_peekNumber {l : Launch} {G : GX} {v0 : Nat} {v1 : Int32} {v2 : Int32} {h : AHeap} {v : Int32} {h1 : AHeap} (hf : Tape_peekNumber v0 v1 v2 h = some (v, h1)) : CT l G kTape_peekNumber 0 0 [.ref v0, .int v1, .int v2] h (some (.int v)) h1 := by
  refine CT_of (ls := [some (.ref v0), some (.int v1), some (.int v2), none, none]) (Z := fun z => z = (v, h1)) (by decide +kernel) (Nat.le_of_ble_eq_true rfl) hf rfl ⟨rfl, rfl, rfl, trivial⟩ (fun E ok => ?_)
  unfold Tape_peekNumber
  refine J_aload_n (pc' := 1) ok (dOf dX9_peekNumber 0 rfl) rfl rfl rfl ?_
  refine J_getI (ci := 9) (kf := 5) (C := RX9) (T := TX9) (N := 6) (pc' := 4) ok (dOf dX9_peekNumber 1 rfl) rfl (by decide) rfl (by decide) win_9 wfl_X9_40 (fun x1 => ?_)
  refine J_iconst (v := 2) (pc' := 5) ok (dOf dX9_peekNumber 2 rfl) rfl (by decide) ?_
  refine J_icmp_eq (tgt := 10) (pc' := 8) ok (dOf dX9_peekNumber 3 rfl) rfl (by decide) ?_ ?_
  · refine J_iconst (v := 0) (pc' := 11) ok (dOf dX9_peekNumber 6 rfl) rfl (by decide) ?_
    refine J_istore_n (ls' := [some (.ref v0), some (.int v1), some (.int v2), some (.int 0), none]) (pc' := 12) ok (dOf dX9_peekNumber 7 rfl) rfl rfl (Nat.le_of_ble_eq_true rfl) rfl rfl ?_
    refine J_aload_n (pc' := 13) ok (dOf dX9_peekNumber 8 rfl) rfl rfl rfl ?_
    refine J_getI (ci := 9) (kf := 3) (C := RX9) (T := TX9) (N := 6) (pc' := 16) ok (dOf dX9_peekNumber 9 rfl) rfl (by decide) rfl (by decide) win_9 wfl_X9_37 (fun x2 => ?_)
    refine J_istore (ls' := [some (.ref v0), some (.int v1), some (.int v2), some (.int 0), some (.int x2)]) (pc' := 18) ok (dOf dX9_peekNumber 10 rfl) rfl (Nat.le_of_ble_eq_true rfl) rfl rfl ?_
    refine J_iter (lf := fun z18 => [some (.ref v0), some (.int v1), some (.int v2), some (.int z18.1), some (.int z18.2)]) (sf := fun _ => []) (hf := fun z18 => h) (px := (fun (q18 : Int32 × Int32) => 54)) (lx := (fun (q18 : Int32 × Int32) => [some (.ref v0), some (.int v1), some (.int v2), some (.int q18.1), some (.int q18.2)])) (sx := (fun (q18 : Int32 × Int32) => [])) (hx := (fun (q18 : Int32 × Int32) => h)) (fun Y2 z18 m1 m2 => Tape_peekNumber_b18_J ok v0 v1 v2 h m1 m2 z18) (fun q18 => ?_) Lmax _
    exact Tape_peekNumber_j54_J ok v0 v1 v2 q18.1 q18.2 h
  · refine J_iconst (v := (-1)) (pc' := 9) ok (dOf dX9_peekNumber 4 rfl) rfl (by decide) ?_
    exact J_ireturn ok (dOf dX9_peekNumber 5 rfl) rfl (Eq.refl 0) (Nat.le_refl 0)
-- X9_takeNumber
abbrev kTape_takeNumber : Cd := (yX9_takeNumber, cX9_takeNumber, 4, (some .int), 2, 45)
theorem dX9_takeNumber : dcheck cX9_takeNumber [(0, .aload_n 0, 1), (1, .iload_n 1, 1), (2, .iload_n 2, 1), (3, .invokevirtual 63, 3), (6, .istore_n 3, 1), (7, .iload_n 3, 1), (8, .iconst (-1), 1), (9, .if_icmp .eq 7, 3), (12, .aload_n 0, 1), (13, .invokevirtual 30, 3), (16, .iload_n 3, 1), (17, .ireturn, 1)] = true := by decide +kernel
theorem cw_Tape_takeNumber {k : Cd} (h1 : kTape_takeNumber.2.2.2.2.1 + 1 ≤ k.2.2.2.2.1) (h2 : 8 + (kTape_takeNumber.2.2.1 + 11) + kTape_takeNumber.2.2.2.2.2 ≤ k.2.2.2.2.2) : Cw k kTape_takeNumber 2 := ⟨wcode_X9_takeNumber, wini_SplitProgram_Tape, ⟨by decide, by decide, by decide +kernel⟩, h1, h2⟩
def Tape_takeNumber_j16 (v0 : Nat) (v1 : Int32) (v2 : Int32) (v3 : Int32) (h : AHeap) : Option (Int32 × AHeap) :=
  some (v3, h)
theorem Tape_takeNumber_j16_J {E : JE} {l : Launch} {G : GX} {v : Int32} {h' : AHeap} (ok : JOK E l G kTape_takeNumber 0 0 (some (.int v)) h') (v0 : Nat) (v1 : Int32) (v2 : Int32) (v3 : Int32) (h : AHeap) : J E kTape_takeNumber (Tape_takeNumber_j16 v0 v1 v2 v3 h) (fun z => z = (v, h')) 16 [some (.ref v0), some (.int v1), some (.int v2), some (.int v3)] [] h 0 0 := by
  unfold Tape_takeNumber_j16
  refine J_iload_n (pc' := 17) ok (dOf dX9_takeNumber 10 rfl) rfl rfl rfl ?_
  exact J_ireturn ok (dOf dX9_takeNumber 11 rfl) rfl (Eq.refl 0) (Nat.le_refl 0)
def Tape_takeNumber (v0 : Nat) (v1 : Int32) (v2 : Int32) (h : AHeap) : Option (Int32 × AHeap) :=
  (chk h v0 9).bind fun _ => bnd2 (Tape_peekNumber v0 v1 v2 h) fun x2 h1 => (if x2 = (-1) then Tape_takeNumber_j16 v0 v1 v2 x2 h1 else (chk h1 v0 9).bind fun _ => bnd2 (Tape_step v0 h1) fun _ h3 => Tape_takeNumber_j16 v0 v1 v2 x2 h3)
theorem t_Tape_takeNumber {l : Launch} {G : GX} {v0 : Nat} {v1 : Int32} {v2 : Int32} {h : AHeap} {v : Int32} {h1 : AHeap} (hf : Tape_takeNumber v0 v1 v2 h = some (v, h1)) : CT l G kTape_takeNumber 0 0 [.ref v0, .int v1, .int v2] h (some (.int v)) h1 := by
  refine CT_of (ls := [some (.ref v0), some (.int v1), some (.int v2), none]) (Z := fun z => z = (v, h1)) (by decide +kernel) (Nat.le_of_ble_eq_true rfl) hf rfl ⟨rfl, rfl, rfl, trivial⟩ (fun E ok => ?_)
  unfold Tape_takeNumber
  refine J_aload_n (pc' := 1) ok (dOf dX9_takeNumber 0 rfl) rfl rfl rfl ?_
  refine J_iload_n (pc' := 2) ok (dOf dX9_takeNumber 1 rfl) rfl rfl rfl ?_
  refine J_iload_n (pc' := 3) ok (dOf dX9_takeNumber 2 rfl) rfl rfl rfl ?_
  refine J_callVi (k2 := kTape_peekNumber) (ci := 9) (T := TX9) (N := 6) (as := [.int v1, .int v2]) (pc' := 6) ok (dOf dX9_takeNumber 3 rfl) rfl (cw_Tape_peekNumber (by decide) (by decide)) wml_X9_63 winst_X9_peekNumber wsel_X9_peekNumber rfl ⟨Nat.le_refl 0, Nat.le_refl 0⟩ (Nat.le_of_ble_eq_true rfl) rfl (fun _ _ hf => t_Tape_peekNumber hf) (fun x2 h1 => ?_)
  refine J_istore_n (ls' := [some (.ref v0), some (.int v1), some (.int v2), some (.int x2)]) (pc' := 7) ok (dOf dX9_takeNumber 4 rfl) rfl rfl (Nat.le_of_ble_eq_true rfl) rfl rfl ?_
  refine J_iload_n (pc' := 8) ok (dOf dX9_takeNumber 5 rfl) rfl rfl rfl ?_
  refine J_iconst (v := (-1)) (pc' := 9) ok (dOf dX9_takeNumber 6 rfl) rfl (by decide) ?_
  refine J_icmp_eq (tgt := 16) (pc' := 12) ok (dOf dX9_takeNumber 7 rfl) rfl (by decide) ?_ ?_
  · exact Tape_takeNumber_j16_J ok v0 v1 v2 x2 h1
  · refine J_aload_n (pc' := 13) ok (dOf dX9_takeNumber 8 rfl) rfl rfl rfl ?_
    refine J_callVv (k2 := kTape_step) (ci := 9) (T := TX9) (N := 6) (as := []) (pc' := 16) ok (dOf dX9_takeNumber 9 rfl) rfl (cw_Tape_step (by decide) (by decide)) wml_X9_30 winst_X9_step wsel_X9_step rfl ⟨Nat.le_refl 0, Nat.le_refl 0⟩ (Nat.le_of_ble_eq_true rfl) rfl (fun _ _ hf => t_Tape_step hf) (fun _ h3 => ?_)
    exact Tape_takeNumber_j16_J ok v0 v1 v2 x2 h3
-- X6_addPlant
abbrev kProg_addPlant : Cd := (yX6_addPlant, cX6_addPlant, 4, none, 0, 0)
theorem dX6_addPlant : dcheck cX6_addPlant [(0, .aload_n 0, 1), (1, .getfield 36, 3), (4, .iconst 4, 1), (5, .if_icmp .ge 43, 3), (8, .aload_n 0, 1), (9, .getfield 9, 3), (12, .aload_n 0, 1), (13, .getfield 36, 3), (16, .iload_n 1, 1), (17, .iastore, 1), (18, .aload_n 0, 1), (19, .getfield 15, 3), (22, .aload_n 0, 1), (23, .getfield 36, 3), (26, .iload_n 2, 1), (27, .iastore, 1), (28, .aload_n 0, 1), (29, .getfield 18, 3), (32, .aload_n 0, 1), (33, .getfield 36, 3), (36, .iload_n 3, 1), (37, .iastore, 1), (38, .aload_n 0, 1), (39, .dup, 1), (40, .getfield 36, 3), (43, .iconst 1, 1), (44, .iadd, 1), (45, .putfield 36, 3), (48, .return_, 1)] = true := by decide +kernel
theorem cw_Prog_addPlant {k : Cd} (h1 : kProg_addPlant.2.2.2.2.1 + 1 ≤ k.2.2.2.2.1) (h2 : 8 + (kProg_addPlant.2.2.1 + 11) + kProg_addPlant.2.2.2.2.2 ≤ k.2.2.2.2.2) : Cw k kProg_addPlant 3 := ⟨wcode_X6_addPlant, wini_SplitProgram_Program, ⟨by decide, by decide, by decide +kernel⟩, h1, h2⟩
def Prog_addPlant_j48 (v0 : Nat) (v1 : Int32) (v2 : Int32) (v3 : Int32) (h : AHeap) : Option (Unit × AHeap) :=
  some ((), h)
theorem Prog_addPlant_j48_J {E : JE} {l : Launch} {G : GX} {h' : AHeap} (ok : JOK E l G kProg_addPlant 0 0 none h') (v0 : Nat) (v1 : Int32) (v2 : Int32) (v3 : Int32) (h : AHeap) : J E kProg_addPlant (Prog_addPlant_j48 v0 v1 v2 v3 h) (fun z => z = ((), h')) 48 [some (.ref v0), some (.int v1), some (.int v2), some (.int v3)] [] h 0 0 := by
  unfold Prog_addPlant_j48
  exact J_vreturn ok (dOf dX6_addPlant 28 rfl) rfl (Eq.refl 0) (Nat.le_refl 0)
def Prog_addPlant (v0 : Nat) (v1 : Int32) (v2 : Int32) (v3 : Int32) (h : AHeap) : Option (Unit × AHeap) :=
  (gfI h v0 6 0).bind fun x1 => (if 4 ≤ x1 then Prog_addPlant_j48 v0 v1 v2 v3 h else (gfR h v0 6 3).bind fun a2 => (gfI h v0 6 0).bind fun x3 => (ast 0 h a2 x3 v1).bind fun h4 => (gfR h4 v0 6 4).bind fun a5 => (gfI h4 v0 6 0).bind fun x6 => (ast 0 h4 a5 x6 v2).bind fun h7 => (gfR h7 v0 6 5).bind fun a8 => (gfI h7 v0 6 0).bind fun x9 => (ast 0 h7 a8 x9 v3).bind fun h10 => (gfI h10 v0 6 0).bind fun x11 => (pfV h10 v0 6 0 (.int (x11 + 1))).bind fun h12 => Prog_addPlant_j48 v0 v1 v2 v3 h12)
theorem t_Prog_addPlant {l : Launch} {G : GX} {v0 : Nat} {v1 : Int32} {v2 : Int32} {v3 : Int32} {h : AHeap} {h1 : AHeap} (hf : Prog_addPlant v0 v1 v2 v3 h = some ((), h1)) : CT l G kProg_addPlant 0 0 [.ref v0, .int v1, .int v2, .int v3] h none h1 := by
  refine CT_of (ls := [some (.ref v0), some (.int v1), some (.int v2), some (.int v3)]) (Z := fun z => z = ((), h1)) (by decide +kernel) (Nat.le_of_ble_eq_true rfl) hf rfl ⟨rfl, rfl, rfl, rfl, trivial⟩ (fun E ok => ?_)
  unfold Prog_addPlant
  refine J_aload_n (pc' := 1) ok (dOf dX6_addPlant 0 rfl) rfl rfl rfl ?_
  refine J_getI (ci := 6) (kf := 0) (C := RX6) (T := TX6) (N := 9) (pc' := 4) ok (dOf dX6_addPlant 1 rfl) rfl (by decide) rfl (by decide) win_6 wfl_X6_36 (fun x1 => ?_)
  refine J_iconst (v := 4) (pc' := 5) ok (dOf dX6_addPlant 2 rfl) rfl (by decide) ?_
  refine J_icmp_ge (tgt := 48) (pc' := 8) ok (dOf dX6_addPlant 3 rfl) rfl (by decide) ?_ ?_
  · exact Prog_addPlant_j48_J ok v0 v1 v2 v3 h
  · refine J_aload_n (pc' := 9) ok (dOf dX6_addPlant 4 rfl) rfl rfl rfl ?_
    refine J_getR (ci := 6) (kf := 3) (C := RX6) (T := TX6) (N := 9) (pc' := 12) ok (dOf dX6_addPlant 5 rfl) rfl (by decide) rfl (by decide) win_6 wfl_X6_9 (fun a2 => ?_)
    refine J_aload_n (pc' := 13) ok (dOf dX6_addPlant 6 rfl) rfl rfl rfl ?_
    refine J_getI (ci := 6) (kf := 0) (C := RX6) (T := TX6) (N := 9) (pc' := 16) ok (dOf dX6_addPlant 7 rfl) rfl (by decide) rfl (by decide) win_6 wfl_X6_36 (fun x3 => ?_)
    refine J_iload_n (pc' := 17) ok (dOf dX6_addPlant 8 rfl) rfl rfl rfl ?_
    refine J_iast (pc' := 18) ok (dOf dX6_addPlant 9 rfl) rfl (fun h4 _ => ?_)
    refine J_aload_n (pc' := 19) ok (dOf dX6_addPlant 10 rfl) rfl rfl rfl ?_
    refine J_getR (ci := 6) (kf := 4) (C := RX6) (T := TX6) (N := 9) (pc' := 22) ok (dOf dX6_addPlant 11 rfl) rfl (by decide) rfl (by decide) win_6 wfl_X6_15 (fun a5 => ?_)
    refine J_aload_n (pc' := 23) ok (dOf dX6_addPlant 12 rfl) rfl rfl rfl ?_
    refine J_getI (ci := 6) (kf := 0) (C := RX6) (T := TX6) (N := 9) (pc' := 26) ok (dOf dX6_addPlant 13 rfl) rfl (by decide) rfl (by decide) win_6 wfl_X6_36 (fun x6 => ?_)
    refine J_iload_n (pc' := 27) ok (dOf dX6_addPlant 14 rfl) rfl rfl rfl ?_
    refine J_iast (pc' := 28) ok (dOf dX6_addPlant 15 rfl) rfl (fun h7 _ => ?_)
    refine J_aload_n (pc' := 29) ok (dOf dX6_addPlant 16 rfl) rfl rfl rfl ?_
    refine J_getR (ci := 6) (kf := 5) (C := RX6) (T := TX6) (N := 9) (pc' := 32) ok (dOf dX6_addPlant 17 rfl) rfl (by decide) rfl (by decide) win_6 wfl_X6_18 (fun a8 => ?_)
    refine J_aload_n (pc' := 33) ok (dOf dX6_addPlant 18 rfl) rfl rfl rfl ?_
    refine J_getI (ci := 6) (kf := 0) (C := RX6) (T := TX6) (N := 9) (pc' := 36) ok (dOf dX6_addPlant 19 rfl) rfl (by decide) rfl (by decide) win_6 wfl_X6_36 (fun x9 => ?_)
    refine J_iload_n (pc' := 37) ok (dOf dX6_addPlant 20 rfl) rfl rfl rfl ?_
    refine J_iast (pc' := 38) ok (dOf dX6_addPlant 21 rfl) rfl (fun h10 _ => ?_)
    refine J_aload_n (pc' := 39) ok (dOf dX6_addPlant 22 rfl) rfl rfl rfl ?_
    refine J_dup (pc' := 40) ok (dOf dX6_addPlant 23 rfl) rfl rfl ?_
    refine J_getI (ci := 6) (kf := 0) (C := RX6) (T := TX6) (N := 9) (pc' := 43) ok (dOf dX6_addPlant 24 rfl) rfl (by decide) rfl (by decide) win_6 wfl_X6_36 (fun x11 => ?_)
    refine J_iconst (v := 1) (pc' := 44) ok (dOf dX6_addPlant 25 rfl) rfl (by decide) ?_
    refine J_iadd (pc' := 45) ok (dOf dX6_addPlant 26 rfl) rfl ?_
    refine J_putI (ci := 6) (kf := 0) (C := RX6) (T := TX6) (N := 9) (pc' := 48) ok tyX6 (dOf dX6_addPlant 27 rfl) rfl rfl (by decide) win_6 tyX6_ok nmX6 rfl rfl wfl_X6_36 (fun h12 _ => ?_)
    exact Prog_addPlant_j48_J ok v0 v1 v2 v3 h12
-- X9_takePlant
abbrev kTape_takePlant : Cd := (yX9_takePlant, cX9_takePlant, 5, (some .boolean), 3, 68)
theorem dX9_takePlant : dcheck cX9_takePlant [(0, .aload_n 1, 1), (1, .getfield 90, 3), (4, .iconst 4, 1), (5, .if_icmp .lt 5, 3), (8, .iconst 0, 1), (9, .ireturn, 1), (10, .aload_n 0, 1), (11, .invokevirtual 30, 3), (14, .aload_n 0, 1), (15, .iconst 0, 1), (16, .sipush 999, 3), (19, .invokevirtual 93, 3), (22, .istore_n 2, 1), (23, .iload_n 2, 1), (24, .iconst (-1), 1), (25, .if_icmp .ne 7, 3), (28, .iconst (-1), 1), (29, .goto 10, 3), (32, .aload_n 0, 1), (33, .iconst 1, 1), (34, .bipush 20, 2), (36, .invokevirtual 93, 3), (39, .istore_n 3, 1), (40, .iload_n 3, 1), (41, .iconst (-1), 1), (42, .if_icmp .ne 7, 3), (45, .iconst (-1), 1), (46, .goto 9, 3), (49, .aload_n 0, 1), (50, .iconst 0, 1), (51, .iconst 3, 1), (52, .invokevirtual 93, 3), (55, .istore 4, 2), (57, .iload 4, 2), (59, .iconst (-1), 1), (60, .if_icmp .ne 5, 3), (63, .iconst 0, 1), (64, .ireturn, 1), (65, .aload_n 1, 1), (66, .iload_n 2, 1), (67, .iload_n 3, 1), (68, .iload 4, 2), (70, .invokevirtual 96, 3), (73, .iconst 1, 1), (74, .ireturn, 1)] = true := by decide +kernel
theorem cw_Tape_takePlant {k : Cd} (h1 : kTape_takePlant.2.2.2.2.1 + 1 ≤ k.2.2.2.2.1) (h2 : 8 + (kTape_takePlant.2.2.1 + 11) + kTape_takePlant.2.2.2.2.2 ≤ k.2.2.2.2.2) : Cw k kTape_takePlant 1 := ⟨wcode_X9_takePlant, wini_SplitProgram_Tape, ⟨by decide, by decide, by decide +kernel⟩, h1, h2⟩
def Tape_takePlant_j55 (v0 : Nat) (v1 : Nat) (v2 : Int32) (v3 : Int32) (t0 : Int32) (h : AHeap) : Option (Int32 × AHeap) :=
  (if ¬ t0 = (-1) then (chk h v1 6).bind fun _ => bnd2 (Prog_addPlant v1 v2 v3 t0 h) fun _ h9 => (bz 1).bind fun z => some (z, h9) else (bz 0).bind fun z => some (z, h))
theorem Tape_takePlant_j55_J {E : JE} {l : Launch} {G : GX} {v : Int32} {h' : AHeap} (ok : JOK E l G kTape_takePlant 0 0 (some (.int v)) h') (v0 : Nat) (v1 : Nat) (v2 : Int32) (v3 : Int32) (t0 : Int32) (h : AHeap) : J E kTape_takePlant (Tape_takePlant_j55 v0 v1 v2 v3 t0 h) (fun z => z = (v, h')) 55 [some (.ref v0), some (.ref v1), some (.int v2), some (.int v3), none] [.int t0] h 0 0 := by
  unfold Tape_takePlant_j55
  refine J_istore (ls' := [some (.ref v0), some (.ref v1), some (.int v2), some (.int v3), some (.int t0)]) (pc' := 57) ok (dOf dX9_takePlant 32 rfl) rfl (Nat.le_of_ble_eq_true rfl) rfl rfl ?_
  refine J_iload (pc' := 59) ok (dOf dX9_takePlant 33 rfl) rfl rfl ?_
  refine J_iconst (v := (-1)) (pc' := 60) ok (dOf dX9_takePlant 34 rfl) rfl (by decide) ?_
  refine J_icmp_ne (tgt := 65) (pc' := 63) ok (dOf dX9_takePlant 35 rfl) rfl (by decide) ?_ ?_
  · refine J_aload_n (pc' := 66) ok (dOf dX9_takePlant 38 rfl) rfl rfl rfl ?_
    refine J_iload_n (pc' := 67) ok (dOf dX9_takePlant 39 rfl) rfl rfl rfl ?_
    refine J_iload_n (pc' := 68) ok (dOf dX9_takePlant 40 rfl) rfl rfl rfl ?_
    refine J_iload (pc' := 70) ok (dOf dX9_takePlant 41 rfl) rfl rfl ?_
    refine J_callVv (k2 := kProg_addPlant) (ci := 6) (T := TX6) (N := 9) (as := [.int v2, .int v3, .int t0]) (pc' := 73) ok (dOf dX9_takePlant 42 rfl) rfl (cw_Prog_addPlant (by decide) (by decide)) wml_X9_96 winst_X6_addPlant wsel_X6_addPlant rfl ⟨Nat.le_refl 0, Nat.le_refl 0⟩ (Nat.le_of_ble_eq_true rfl) rfl (fun _ _ hf => t_Prog_addPlant hf) (fun _ h9 => ?_)
    refine J_iconst (v := 1) (pc' := 74) ok (dOf dX9_takePlant 43 rfl) rfl (by decide) ?_
    exact J_zreturn ok (dOf dX9_takePlant 44 rfl) rfl (Eq.refl 0) (Nat.le_refl 0)
  · refine J_iconst (v := 0) (pc' := 64) ok (dOf dX9_takePlant 36 rfl) rfl (by decide) ?_
    exact J_zreturn ok (dOf dX9_takePlant 37 rfl) rfl (Eq.refl 0) (Nat.le_refl 0)
def Tape_takePlant_j39 (v0 : Nat) (v1 : Nat) (v2 : Int32) (t0 : Int32) (h : AHeap) : Option (Int32 × AHeap) :=
  (if ¬ t0 = (-1) then (chk h v0 9).bind fun _ => bnd2 (Tape_takeNumber v0 0 3 h) fun x8 h7 => Tape_takePlant_j55 v0 v1 v2 t0 x8 h7 else Tape_takePlant_j55 v0 v1 v2 t0 (-1) h)
theorem Tape_takePlant_j39_J {E : JE} {l : Launch} {G : GX} {v : Int32} {h' : AHeap} (ok : JOK E l G kTape_takePlant 0 0 (some (.int v)) h') (v0 : Nat) (v1 : Nat) (v2 : Int32) (t0 : Int32) (h : AHeap) : J E kTape_takePlant (Tape_takePlant_j39 v0 v1 v2 t0 h) (fun z => z = (v, h')) 39 [some (.ref v0), some (.ref v1), some (.int v2), none, none] [.int t0] h 0 0 := by
  unfold Tape_takePlant_j39
  refine J_istore_n (ls' := [some (.ref v0), some (.ref v1), some (.int v2), some (.int t0), none]) (pc' := 40) ok (dOf dX9_takePlant 22 rfl) rfl rfl (Nat.le_of_ble_eq_true rfl) rfl rfl ?_
  refine J_iload_n (pc' := 41) ok (dOf dX9_takePlant 23 rfl) rfl rfl rfl ?_
  refine J_iconst (v := (-1)) (pc' := 42) ok (dOf dX9_takePlant 24 rfl) rfl (by decide) ?_
  refine J_icmp_ne (tgt := 49) (pc' := 45) ok (dOf dX9_takePlant 25 rfl) rfl (by decide) ?_ ?_
  · refine J_aload_n (pc' := 50) ok (dOf dX9_takePlant 28 rfl) rfl rfl rfl ?_
    refine J_iconst (v := 0) (pc' := 51) ok (dOf dX9_takePlant 29 rfl) rfl (by decide) ?_
    refine J_iconst (v := 3) (pc' := 52) ok (dOf dX9_takePlant 30 rfl) rfl (by decide) ?_
    refine J_callVi (k2 := kTape_takeNumber) (ci := 9) (T := TX9) (N := 6) (as := [.int 0, .int 3]) (pc' := 55) ok (dOf dX9_takePlant 31 rfl) rfl (cw_Tape_takeNumber (by decide) (by decide)) wml_X9_93 winst_X9_takeNumber wsel_X9_takeNumber rfl ⟨Nat.le_refl 0, Nat.le_refl 0⟩ (Nat.le_of_ble_eq_true rfl) rfl (fun _ _ hf => t_Tape_takeNumber hf) (fun x8 h7 => ?_)
    exact Tape_takePlant_j55_J ok v0 v1 v2 t0 x8 h7
  · refine J_iconst (v := (-1)) (pc' := 46) ok (dOf dX9_takePlant 26 rfl) rfl (by decide) ?_
    refine J_goto (tgt := 55) ok (dOf dX9_takePlant 27 rfl) (by decide) ?_
    exact Tape_takePlant_j55_J ok v0 v1 v2 t0 (-1) h
def Tape_takePlant (v0 : Nat) (v1 : Nat) (h : AHeap) : Option (Int32 × AHeap) :=
  (gfI h v1 6 0).bind fun x1 => (if x1 < 4 then (chk h v0 9).bind fun _ => bnd2 (Tape_step v0 h) fun _ h2 => (chk h2 v0 9).bind fun _ => bnd2 (Tape_takeNumber v0 0 999 h2) fun x4 h3 => (if ¬ x4 = (-1) then (chk h3 v0 9).bind fun _ => bnd2 (Tape_takeNumber v0 1 20 h3) fun x6 h5 => Tape_takePlant_j39 v0 v1 x4 x6 h5 else Tape_takePlant_j39 v0 v1 x4 (-1) h3) else (bz 0).bind fun z => some (z, h))
theorem t_Tape_takePlant {l : Launch} {G : GX} {v0 : Nat} {v1 : Nat} {h : AHeap} {v : Int32} {h1 : AHeap} (hf : Tape_takePlant v0 v1 h = some (v, h1)) : CT l G kTape_takePlant 0 0 [.ref v0, .ref v1] h (some (.int v)) h1 := by
  refine CT_of (ls := [some (.ref v0), some (.ref v1), none, none, none]) (Z := fun z => z = (v, h1)) (by decide +kernel) (Nat.le_of_ble_eq_true rfl) hf rfl ⟨rfl, rfl, trivial⟩ (fun E ok => ?_)
  unfold Tape_takePlant
  refine J_aload_n (pc' := 1) ok (dOf dX9_takePlant 0 rfl) rfl rfl rfl ?_
  refine J_getI (ci := 6) (kf := 0) (C := RX6) (T := TX6) (N := 9) (pc' := 4) ok (dOf dX9_takePlant 1 rfl) rfl (by decide) rfl (by decide) win_6 wfl_X9_90 (fun x1 => ?_)
  refine J_iconst (v := 4) (pc' := 5) ok (dOf dX9_takePlant 2 rfl) rfl (by decide) ?_
  refine J_icmp_lt (tgt := 10) (pc' := 8) ok (dOf dX9_takePlant 3 rfl) rfl (by decide) ?_ ?_
  · refine J_aload_n (pc' := 11) ok (dOf dX9_takePlant 6 rfl) rfl rfl rfl ?_
    refine J_callVv (k2 := kTape_step) (ci := 9) (T := TX9) (N := 6) (as := []) (pc' := 14) ok (dOf dX9_takePlant 7 rfl) rfl (cw_Tape_step (by decide) (by decide)) wml_X9_30 winst_X9_step wsel_X9_step rfl ⟨Nat.le_refl 0, Nat.le_refl 0⟩ (Nat.le_of_ble_eq_true rfl) rfl (fun _ _ hf => t_Tape_step hf) (fun _ h2 => ?_)
    refine J_aload_n (pc' := 15) ok (dOf dX9_takePlant 8 rfl) rfl rfl rfl ?_
    refine J_iconst (v := 0) (pc' := 16) ok (dOf dX9_takePlant 9 rfl) rfl (by decide) ?_
    refine J_sipush (v := 999) (pc' := 19) ok (dOf dX9_takePlant 10 rfl) rfl (by decide) ?_
    refine J_callVi (k2 := kTape_takeNumber) (ci := 9) (T := TX9) (N := 6) (as := [.int 0, .int 999]) (pc' := 22) ok (dOf dX9_takePlant 11 rfl) rfl (cw_Tape_takeNumber (by decide) (by decide)) wml_X9_93 winst_X9_takeNumber wsel_X9_takeNumber rfl ⟨Nat.le_refl 0, Nat.le_refl 0⟩ (Nat.le_of_ble_eq_true rfl) rfl (fun _ _ hf => t_Tape_takeNumber hf) (fun x4 h3 => ?_)
    refine J_istore_n (ls' := [some (.ref v0), some (.ref v1), some (.int x4), none, none]) (pc' := 23) ok (dOf dX9_takePlant 12 rfl) rfl rfl (Nat.le_of_ble_eq_true rfl) rfl rfl ?_
    refine J_iload_n (pc' := 24) ok (dOf dX9_takePlant 13 rfl) rfl rfl rfl ?_
    refine J_iconst (v := (-1)) (pc' := 25) ok (dOf dX9_takePlant 14 rfl) rfl (by decide) ?_
    refine J_icmp_ne (tgt := 32) (pc' := 28) ok (dOf dX9_takePlant 15 rfl) rfl (by decide) ?_ ?_
    · refine J_aload_n (pc' := 33) ok (dOf dX9_takePlant 18 rfl) rfl rfl rfl ?_
      refine J_iconst (v := 1) (pc' := 34) ok (dOf dX9_takePlant 19 rfl) rfl (by decide) ?_
      refine J_bipush (v := 20) (pc' := 36) ok (dOf dX9_takePlant 20 rfl) rfl (by decide) ?_
      refine J_callVi (k2 := kTape_takeNumber) (ci := 9) (T := TX9) (N := 6) (as := [.int 1, .int 20]) (pc' := 39) ok (dOf dX9_takePlant 21 rfl) rfl (cw_Tape_takeNumber (by decide) (by decide)) wml_X9_93 winst_X9_takeNumber wsel_X9_takeNumber rfl ⟨Nat.le_refl 0, Nat.le_refl 0⟩ (Nat.le_of_ble_eq_true rfl) rfl (fun _ _ hf => t_Tape_takeNumber hf) (fun x6 h5 => ?_)
      exact Tape_takePlant_j39_J ok v0 v1 x4 x6 h5
    · refine J_iconst (v := (-1)) (pc' := 29) ok (dOf dX9_takePlant 16 rfl) rfl (by decide) ?_
      refine J_goto (tgt := 39) ok (dOf dX9_takePlant 17 rfl) (by decide) ?_
      exact Tape_takePlant_j39_J ok v0 v1 x4 (-1) h3
  · refine J_iconst (v := 0) (pc' := 9) ok (dOf dX9_takePlant 4 rfl) rfl (by decide) ?_
    exact J_zreturn ok (dOf dX9_takePlant 5 rfl) rfl (Eq.refl 0) (Nat.le_refl 0)
-- X9_takeSite
abbrev kTape_takeSite : Cd := (yX9_takeSite, cX9_takeSite, 2, (some .boolean), 2, 40)
theorem dX9_takeSite : dcheck cX9_takeSite [(0, .aload_n 1, 1), (1, .getfield 100, 3), (4, .bipush 6, 2), (6, .if_icmp .lt 5, 3), (9, .iconst 0, 1), (10, .ireturn, 1), (11, .aload_n 0, 1), (12, .invokevirtual 30, 3), (15, .aload_n 1, 1), (16, .dup, 1), (17, .getfield 100, 3), (20, .iconst 1, 1), (21, .iadd, 1), (22, .putfield 100, 3), (25, .iconst 1, 1), (26, .ireturn, 1)] = true := by decide +kernel
theorem cw_Tape_takeSite {k : Cd} (h1 : kTape_takeSite.2.2.2.2.1 + 1 ≤ k.2.2.2.2.1) (h2 : 8 + (kTape_takeSite.2.2.1 + 11) + kTape_takeSite.2.2.2.2.2 ≤ k.2.2.2.2.2) : Cw k kTape_takeSite 1 := ⟨wcode_X9_takeSite, wini_SplitProgram_Tape, ⟨by decide, by decide, by decide +kernel⟩, h1, h2⟩
def Tape_takeSite (v0 : Nat) (v1 : Nat) (h : AHeap) : Option (Int32 × AHeap) :=
  (gfI h v1 6 1).bind fun x1 => (if x1 < 6 then (chk h v0 9).bind fun _ => bnd2 (Tape_step v0 h) fun _ h2 => (gfI h2 v1 6 1).bind fun x3 => (pfV h2 v1 6 1 (.int (x3 + 1))).bind fun h4 => (bz 1).bind fun z => some (z, h4) else (bz 0).bind fun z => some (z, h))
theorem t_Tape_takeSite {l : Launch} {G : GX} {v0 : Nat} {v1 : Nat} {h : AHeap} {v : Int32} {h1 : AHeap} (hf : Tape_takeSite v0 v1 h = some (v, h1)) : CT l G kTape_takeSite 0 0 [.ref v0, .ref v1] h (some (.int v)) h1 := by
  refine CT_of (ls := [some (.ref v0), some (.ref v1)]) (Z := fun z => z = (v, h1)) (by decide +kernel) (Nat.le_of_ble_eq_true rfl) hf rfl ⟨rfl, rfl, trivial⟩ (fun E ok => ?_)
  unfold Tape_takeSite
  refine J_aload_n (pc' := 1) ok (dOf dX9_takeSite 0 rfl) rfl rfl rfl ?_
  refine J_getI (ci := 6) (kf := 1) (C := RX6) (T := TX6) (N := 9) (pc' := 4) ok (dOf dX9_takeSite 1 rfl) rfl (by decide) rfl (by decide) win_6 wfl_X9_100 (fun x1 => ?_)
  refine J_bipush (v := 6) (pc' := 6) ok (dOf dX9_takeSite 2 rfl) rfl (by decide) ?_
  refine J_icmp_lt (tgt := 11) (pc' := 9) ok (dOf dX9_takeSite 3 rfl) rfl (by decide) ?_ ?_
  · refine J_aload_n (pc' := 12) ok (dOf dX9_takeSite 6 rfl) rfl rfl rfl ?_
    refine J_callVv (k2 := kTape_step) (ci := 9) (T := TX9) (N := 6) (as := []) (pc' := 15) ok (dOf dX9_takeSite 7 rfl) rfl (cw_Tape_step (by decide) (by decide)) wml_X9_30 winst_X9_step wsel_X9_step rfl ⟨Nat.le_refl 0, Nat.le_refl 0⟩ (Nat.le_of_ble_eq_true rfl) rfl (fun _ _ hf => t_Tape_step hf) (fun _ h2 => ?_)
    refine J_aload_n (pc' := 16) ok (dOf dX9_takeSite 8 rfl) rfl rfl rfl ?_
    refine J_dup (pc' := 17) ok (dOf dX9_takeSite 9 rfl) rfl rfl ?_
    refine J_getI (ci := 6) (kf := 1) (C := RX6) (T := TX6) (N := 9) (pc' := 20) ok (dOf dX9_takeSite 10 rfl) rfl (by decide) rfl (by decide) win_6 wfl_X9_100 (fun x3 => ?_)
    refine J_iconst (v := 1) (pc' := 21) ok (dOf dX9_takeSite 11 rfl) rfl (by decide) ?_
    refine J_iadd (pc' := 22) ok (dOf dX9_takeSite 12 rfl) rfl ?_
    refine J_putI (ci := 6) (kf := 1) (C := RX6) (T := TX6) (N := 9) (pc' := 25) ok tyX6 (dOf dX9_takeSite 13 rfl) rfl rfl (by decide) win_6 tyX6_ok nmX6 rfl rfl wfl_X9_100 (fun h4 _ => ?_)
    refine J_iconst (v := 1) (pc' := 26) ok (dOf dX9_takeSite 14 rfl) rfl (by decide) ?_
    exact J_zreturn ok (dOf dX9_takeSite 15 rfl) rfl (Eq.refl 0) (Nat.le_refl 0)
  · refine J_iconst (v := 0) (pc' := 10) ok (dOf dX9_takeSite 4 rfl) rfl (by decide) ?_
    exact J_zreturn ok (dOf dX9_takeSite 5 rfl) rfl (Eq.refl 0) (Nat.le_refl 0)
-- X9_takeRoad
abbrev kTape_takeRoad : Cd := (yX9_takeRoad, cX9_takeRoad, 5, (some .boolean), 3, 68)
theorem dX9_takeRoad : dcheck cX9_takeRoad [(0, .aload_n 0, 1), (1, .invokevirtual 30, 3), (4, .aload_n 0, 1), (5, .iconst 0, 1), (6, .aload_n 1, 1), (7, .getfield 90, 3), (10, .iconst 1, 1), (11, .isub, 1), (12, .invokevirtual 93, 3), (15, .istore_n 2, 1), (16, .iload_n 2, 1), (17, .iconst (-1), 1), (18, .if_icmp .ne 7, 3), (21, .iconst (-1), 1), (22, .goto 14, 3), (25, .aload_n 0, 1), (26, .iconst 0, 1), (27, .aload_n 1, 1), (28, .getfield 100, 3), (31, .iconst 1, 1), (32, .isub, 1), (33, .invokevirtual 63, 3), (36, .istore_n 3, 1), (37, .iload_n 3, 1), (38, .iconst (-1), 1), (39, .if_icmp .eq 18, 3), (42, .aload_n 1, 1), (43, .getfield 103, 3), (46, .iload_n 2, 1), (47, .bipush 6, 2), (49, .imul, 1), (50, .iload_n 3, 1), (51, .iadd, 1), (52, .iaload, 1), (53, .iconst (-1), 1), (54, .if_icmp .eq 5, 3), (57, .iconst 0, 1), (58, .ireturn, 1), (59, .aload_n 0, 1), (60, .invokevirtual 30, 3), (63, .aload_n 0, 1), (64, .iconst 0, 1), (65, .bipush 99, 2), (67, .invokevirtual 93, 3), (70, .istore 4, 2), (72, .aload_n 1, 1), (73, .getfield 103, 3), (76, .iload_n 2, 1), (77, .bipush 6, 2), (79, .imul, 1), (80, .iload_n 3, 1), (81, .iadd, 1), (82, .iload 4, 2), (84, .iastore, 1), (85, .iload 4, 2), (87, .iconst (-1), 1), (88, .if_icmp .eq 7, 3), (91, .iconst 1, 1), (92, .goto 4, 3), (95, .iconst 0, 1), (96, .ireturn, 1)] = true := by decide +kernel
theorem cw_Tape_takeRoad {k : Cd} (h1 : kTape_takeRoad.2.2.2.2.1 + 1 ≤ k.2.2.2.2.1) (h2 : 8 + (kTape_takeRoad.2.2.1 + 11) + kTape_takeRoad.2.2.2.2.2 ≤ k.2.2.2.2.2) : Cw k kTape_takeRoad 1 := ⟨wcode_X9_takeRoad, wini_SplitProgram_Tape, ⟨by decide, by decide, by decide +kernel⟩, h1, h2⟩
def Tape_takeRoad_j57 (v0 : Nat) (v1 : Nat) (v2 : Int32) (v3 : Int32) (h : AHeap) : Option (Int32 × AHeap) :=
  (bz 0).bind fun z => some (z, h)
theorem Tape_takeRoad_j57_J {E : JE} {l : Launch} {G : GX} {v : Int32} {h' : AHeap} (ok : JOK E l G kTape_takeRoad 0 0 (some (.int v)) h') (v0 : Nat) (v1 : Nat) (v2 : Int32) (v3 : Int32) (h : AHeap) : J E kTape_takeRoad (Tape_takeRoad_j57 v0 v1 v2 v3 h) (fun z => z = (v, h')) 57 [some (.ref v0), some (.ref v1), some (.int v2), some (.int v3), none] [] h 0 0 := by
  unfold Tape_takeRoad_j57
  refine J_iconst (v := 0) (pc' := 58) ok (dOf dX9_takeRoad 36 rfl) rfl (by decide) ?_
  exact J_zreturn ok (dOf dX9_takeRoad 37 rfl) rfl (Eq.refl 0) (Nat.le_refl 0)
def Tape_takeRoad_j96 (v0 : Nat) (v1 : Nat) (v2 : Int32) (v3 : Int32) (v4 : Int32) (t0 : Int32) (h : AHeap) : Option (Int32 × AHeap) :=
  (bz t0).bind fun z => some (z, h)
theorem Tape_takeRoad_j96_J {E : JE} {l : Launch} {G : GX} {v : Int32} {h' : AHeap} (ok : JOK E l G kTape_takeRoad 0 0 (some (.int v)) h') (v0 : Nat) (v1 : Nat) (v2 : Int32) (v3 : Int32) (v4 : Int32) (t0 : Int32) (h : AHeap) : J E kTape_takeRoad (Tape_takeRoad_j96 v0 v1 v2 v3 v4 t0 h) (fun z => z = (v, h')) 96 [some (.ref v0), some (.ref v1), some (.int v2), some (.int v3), some (.int v4)] [.int t0] h 0 0 := by
  unfold Tape_takeRoad_j96
  exact J_zreturn ok (dOf dX9_takeRoad 60 rfl) rfl (Eq.refl 0) (Nat.le_refl 0)
def Tape_takeRoad_j36 (v0 : Nat) (v1 : Nat) (v2 : Int32) (t0 : Int32) (h : AHeap) : Option (Int32 × AHeap) :=
  (if t0 = (-1) then Tape_takeRoad_j57 v0 v1 v2 t0 h else (gfR h v1 6 6).bind fun a8 => (ald 0 h a8 ((v2 * 6) + t0)).bind fun x9 => (if x9 = (-1) then (chk h v0 9).bind fun _ => bnd2 (Tape_step v0 h) fun _ h10 => (chk h10 v0 9).bind fun _ => bnd2 (Tape_takeNumber v0 0 99 h10) fun x12 h11 => (gfR h11 v1 6 6).bind fun a13 => (ast 0 h11 a13 ((v2 * 6) + t0) x12).bind fun h14 => (if x12 = (-1) then Tape_takeRoad_j96 v0 v1 v2 t0 x12 0 h14 else Tape_takeRoad_j96 v0 v1 v2 t0 x12 1 h14) else Tape_takeRoad_j57 v0 v1 v2 t0 h))
theorem Tape_takeRoad_j36_J {E : JE} {l : Launch} {G : GX} {v : Int32} {h' : AHeap} (ok : JOK E l G kTape_takeRoad 0 0 (some (.int v)) h') (v0 : Nat) (v1 : Nat) (v2 : Int32) (t0 : Int32) (h : AHeap) : J E kTape_takeRoad (Tape_takeRoad_j36 v0 v1 v2 t0 h) (fun z => z = (v, h')) 36 [some (.ref v0), some (.ref v1), some (.int v2), none, none] [.int t0] h 0 0 := by
  unfold Tape_takeRoad_j36
  refine J_istore_n (ls' := [some (.ref v0), some (.ref v1), some (.int v2), some (.int t0), none]) (pc' := 37) ok (dOf dX9_takeRoad 22 rfl) rfl rfl (Nat.le_of_ble_eq_true rfl) rfl rfl ?_
  refine J_iload_n (pc' := 38) ok (dOf dX9_takeRoad 23 rfl) rfl rfl rfl ?_
  refine J_iconst (v := (-1)) (pc' := 39) ok (dOf dX9_takeRoad 24 rfl) rfl (by decide) ?_
  refine J_icmp_eq (tgt := 57) (pc' := 42) ok (dOf dX9_takeRoad 25 rfl) rfl (by decide) ?_ ?_
  · exact Tape_takeRoad_j57_J ok v0 v1 v2 t0 h
  · refine J_aload_n (pc' := 43) ok (dOf dX9_takeRoad 26 rfl) rfl rfl rfl ?_
    refine J_getR (ci := 6) (kf := 6) (C := RX6) (T := TX6) (N := 9) (pc' := 46) ok (dOf dX9_takeRoad 27 rfl) rfl (by decide) rfl (by decide) win_6 wfl_X9_103 (fun a8 => ?_)
    refine J_iload_n (pc' := 47) ok (dOf dX9_takeRoad 28 rfl) rfl rfl rfl ?_
    refine J_bipush (v := 6) (pc' := 49) ok (dOf dX9_takeRoad 29 rfl) rfl (by decide) ?_
    refine J_imul (pc' := 50) ok (dOf dX9_takeRoad 30 rfl) rfl ?_
    refine J_iload_n (pc' := 51) ok (dOf dX9_takeRoad 31 rfl) rfl rfl rfl ?_
    refine J_iadd (pc' := 52) ok (dOf dX9_takeRoad 32 rfl) rfl ?_
    refine J_iald (pc' := 53) ok (dOf dX9_takeRoad 33 rfl) rfl (fun x9 => ?_)
    refine J_iconst (v := (-1)) (pc' := 54) ok (dOf dX9_takeRoad 34 rfl) rfl (by decide) ?_
    refine J_icmp_eq (tgt := 59) (pc' := 57) ok (dOf dX9_takeRoad 35 rfl) rfl (by decide) ?_ ?_
    · refine J_aload_n (pc' := 60) ok (dOf dX9_takeRoad 38 rfl) rfl rfl rfl ?_
      refine J_callVv (k2 := kTape_step) (ci := 9) (T := TX9) (N := 6) (as := []) (pc' := 63) ok (dOf dX9_takeRoad 39 rfl) rfl (cw_Tape_step (by decide) (by decide)) wml_X9_30 winst_X9_step wsel_X9_step rfl ⟨Nat.le_refl 0, Nat.le_refl 0⟩ (Nat.le_of_ble_eq_true rfl) rfl (fun _ _ hf => t_Tape_step hf) (fun _ h10 => ?_)
      refine J_aload_n (pc' := 64) ok (dOf dX9_takeRoad 40 rfl) rfl rfl rfl ?_
      refine J_iconst (v := 0) (pc' := 65) ok (dOf dX9_takeRoad 41 rfl) rfl (by decide) ?_
      refine J_bipush (v := 99) (pc' := 67) ok (dOf dX9_takeRoad 42 rfl) rfl (by decide) ?_
      refine J_callVi (k2 := kTape_takeNumber) (ci := 9) (T := TX9) (N := 6) (as := [.int 0, .int 99]) (pc' := 70) ok (dOf dX9_takeRoad 43 rfl) rfl (cw_Tape_takeNumber (by decide) (by decide)) wml_X9_93 winst_X9_takeNumber wsel_X9_takeNumber rfl ⟨Nat.le_refl 0, Nat.le_refl 0⟩ (Nat.le_of_ble_eq_true rfl) rfl (fun _ _ hf => t_Tape_takeNumber hf) (fun x12 h11 => ?_)
      refine J_istore (ls' := [some (.ref v0), some (.ref v1), some (.int v2), some (.int t0), some (.int x12)]) (pc' := 72) ok (dOf dX9_takeRoad 44 rfl) rfl (Nat.le_of_ble_eq_true rfl) rfl rfl ?_
      refine J_aload_n (pc' := 73) ok (dOf dX9_takeRoad 45 rfl) rfl rfl rfl ?_
      refine J_getR (ci := 6) (kf := 6) (C := RX6) (T := TX6) (N := 9) (pc' := 76) ok (dOf dX9_takeRoad 46 rfl) rfl (by decide) rfl (by decide) win_6 wfl_X9_103 (fun a13 => ?_)
      refine J_iload_n (pc' := 77) ok (dOf dX9_takeRoad 47 rfl) rfl rfl rfl ?_
      refine J_bipush (v := 6) (pc' := 79) ok (dOf dX9_takeRoad 48 rfl) rfl (by decide) ?_
      refine J_imul (pc' := 80) ok (dOf dX9_takeRoad 49 rfl) rfl ?_
      refine J_iload_n (pc' := 81) ok (dOf dX9_takeRoad 50 rfl) rfl rfl rfl ?_
      refine J_iadd (pc' := 82) ok (dOf dX9_takeRoad 51 rfl) rfl ?_
      refine J_iload (pc' := 84) ok (dOf dX9_takeRoad 52 rfl) rfl rfl ?_
      refine J_iast (pc' := 85) ok (dOf dX9_takeRoad 53 rfl) rfl (fun h14 _ => ?_)
      refine J_iload (pc' := 87) ok (dOf dX9_takeRoad 54 rfl) rfl rfl ?_
      refine J_iconst (v := (-1)) (pc' := 88) ok (dOf dX9_takeRoad 55 rfl) rfl (by decide) ?_
      refine J_icmp_eq (tgt := 95) (pc' := 91) ok (dOf dX9_takeRoad 56 rfl) rfl (by decide) ?_ ?_
      · refine J_iconst (v := 0) (pc' := 96) ok (dOf dX9_takeRoad 59 rfl) rfl (by decide) ?_
        exact Tape_takeRoad_j96_J ok v0 v1 v2 t0 x12 0 h14
      · refine J_iconst (v := 1) (pc' := 92) ok (dOf dX9_takeRoad 57 rfl) rfl (by decide) ?_
        refine J_goto (tgt := 96) ok (dOf dX9_takeRoad 58 rfl) (by decide) ?_
        exact Tape_takeRoad_j96_J ok v0 v1 v2 t0 x12 1 h14
    · exact Tape_takeRoad_j57_J ok v0 v1 v2 t0 h
def Tape_takeRoad (v0 : Nat) (v1 : Nat) (h : AHeap) : Option (Int32 × AHeap) :=
  (chk h v0 9).bind fun _ => bnd2 (Tape_step v0 h) fun _ h1 => (gfI h1 v1 6 0).bind fun x2 => (chk h1 v0 9).bind fun _ => bnd2 (Tape_takeNumber v0 0 (x2 - 1) h1) fun x4 h3 => (if ¬ x4 = (-1) then (gfI h3 v1 6 1).bind fun x5 => (chk h3 v0 9).bind fun _ => bnd2 (Tape_peekNumber v0 0 (x5 - 1) h3) fun x7 h6 => Tape_takeRoad_j36 v0 v1 x4 x7 h6 else Tape_takeRoad_j36 v0 v1 x4 (-1) h3)
theorem t_Tape_takeRoad {l : Launch} {G : GX} {v0 : Nat} {v1 : Nat} {h : AHeap} {v : Int32} {h1 : AHeap} (hf : Tape_takeRoad v0 v1 h = some (v, h1)) : CT l G kTape_takeRoad 0 0 [.ref v0, .ref v1] h (some (.int v)) h1 := by
  refine CT_of (ls := [some (.ref v0), some (.ref v1), none, none, none]) (Z := fun z => z = (v, h1)) (by decide +kernel) (Nat.le_of_ble_eq_true rfl) hf rfl ⟨rfl, rfl, trivial⟩ (fun E ok => ?_)
  unfold Tape_takeRoad
  refine J_aload_n (pc' := 1) ok (dOf dX9_takeRoad 0 rfl) rfl rfl rfl ?_
  refine J_callVv (k2 := kTape_step) (ci := 9) (T := TX9) (N := 6) (as := []) (pc' := 4) ok (dOf dX9_takeRoad 1 rfl) rfl (cw_Tape_step (by decide) (by decide)) wml_X9_30 winst_X9_step wsel_X9_step rfl ⟨Nat.le_refl 0, Nat.le_refl 0⟩ (Nat.le_of_ble_eq_true rfl) rfl (fun _ _ hf => t_Tape_step hf) (fun _ h1 => ?_)
  refine J_aload_n (pc' := 5) ok (dOf dX9_takeRoad 2 rfl) rfl rfl rfl ?_
  refine J_iconst (v := 0) (pc' := 6) ok (dOf dX9_takeRoad 3 rfl) rfl (by decide) ?_
  refine J_aload_n (pc' := 7) ok (dOf dX9_takeRoad 4 rfl) rfl rfl rfl ?_
  refine J_getI (ci := 6) (kf := 0) (C := RX6) (T := TX6) (N := 9) (pc' := 10) ok (dOf dX9_takeRoad 5 rfl) rfl (by decide) rfl (by decide) win_6 wfl_X9_90 (fun x2 => ?_)
  refine J_iconst (v := 1) (pc' := 11) ok (dOf dX9_takeRoad 6 rfl) rfl (by decide) ?_
  refine J_isub (pc' := 12) ok (dOf dX9_takeRoad 7 rfl) rfl ?_
  refine J_callVi (k2 := kTape_takeNumber) (ci := 9) (T := TX9) (N := 6) (as := [.int 0, .int (x2 - 1)]) (pc' := 15) ok (dOf dX9_takeRoad 8 rfl) rfl (cw_Tape_takeNumber (by decide) (by decide)) wml_X9_93 winst_X9_takeNumber wsel_X9_takeNumber rfl ⟨Nat.le_refl 0, Nat.le_refl 0⟩ (Nat.le_of_ble_eq_true rfl) rfl (fun _ _ hf => t_Tape_takeNumber hf) (fun x4 h3 => ?_)
  refine J_istore_n (ls' := [some (.ref v0), some (.ref v1), some (.int x4), none, none]) (pc' := 16) ok (dOf dX9_takeRoad 9 rfl) rfl rfl (Nat.le_of_ble_eq_true rfl) rfl rfl ?_
  refine J_iload_n (pc' := 17) ok (dOf dX9_takeRoad 10 rfl) rfl rfl rfl ?_
  refine J_iconst (v := (-1)) (pc' := 18) ok (dOf dX9_takeRoad 11 rfl) rfl (by decide) ?_
  refine J_icmp_ne (tgt := 25) (pc' := 21) ok (dOf dX9_takeRoad 12 rfl) rfl (by decide) ?_ ?_
  · refine J_aload_n (pc' := 26) ok (dOf dX9_takeRoad 15 rfl) rfl rfl rfl ?_
    refine J_iconst (v := 0) (pc' := 27) ok (dOf dX9_takeRoad 16 rfl) rfl (by decide) ?_
    refine J_aload_n (pc' := 28) ok (dOf dX9_takeRoad 17 rfl) rfl rfl rfl ?_
    refine J_getI (ci := 6) (kf := 1) (C := RX6) (T := TX6) (N := 9) (pc' := 31) ok (dOf dX9_takeRoad 18 rfl) rfl (by decide) rfl (by decide) win_6 wfl_X9_100 (fun x5 => ?_)
    refine J_iconst (v := 1) (pc' := 32) ok (dOf dX9_takeRoad 19 rfl) rfl (by decide) ?_
    refine J_isub (pc' := 33) ok (dOf dX9_takeRoad 20 rfl) rfl ?_
    refine J_callVi (k2 := kTape_peekNumber) (ci := 9) (T := TX9) (N := 6) (as := [.int 0, .int (x5 - 1)]) (pc' := 36) ok (dOf dX9_takeRoad 21 rfl) rfl (cw_Tape_peekNumber (by decide) (by decide)) wml_X9_63 winst_X9_peekNumber wsel_X9_peekNumber rfl ⟨Nat.le_refl 0, Nat.le_refl 0⟩ (Nat.le_of_ble_eq_true rfl) rfl (fun _ _ hf => t_Tape_peekNumber hf) (fun x7 h6 => ?_)
    exact Tape_takeRoad_j36_J ok v0 v1 x4 x7 h6
  · refine J_iconst (v := (-1)) (pc' := 22) ok (dOf dX9_takeRoad 13 rfl) rfl (by decide) ?_
    refine J_goto (tgt := 36) ok (dOf dX9_takeRoad 14 rfl) (by decide) ?_
    exact Tape_takeRoad_j36_J ok v0 v1 x4 (-1) h3
-- X6_addCase
abbrev kProg_addCase : Cd := (yX6_addCase, cX6_addCase, 2, none, 0, 0)
theorem dX6_addCase : dcheck cX6_addCase [(0, .aload_n 0, 1), (1, .getfield 43, 3), (4, .iconst 4, 1), (5, .if_icmp .ge 23, 3), (8, .aload_n 0, 1), (9, .getfield 24, 3), (12, .aload_n 0, 1), (13, .getfield 43, 3), (16, .iload_n 1, 1), (17, .iastore, 1), (18, .aload_n 0, 1), (19, .dup, 1), (20, .getfield 43, 3), (23, .iconst 1, 1), (24, .iadd, 1), (25, .putfield 43, 3), (28, .return_, 1)] = true := by decide +kernel
theorem cw_Prog_addCase {k : Cd} (h1 : kProg_addCase.2.2.2.2.1 + 1 ≤ k.2.2.2.2.1) (h2 : 8 + (kProg_addCase.2.2.1 + 11) + kProg_addCase.2.2.2.2.2 ≤ k.2.2.2.2.2) : Cw k kProg_addCase 1 := ⟨wcode_X6_addCase, wini_SplitProgram_Program, ⟨by decide, by decide, by decide +kernel⟩, h1, h2⟩
def Prog_addCase_j28 (v0 : Nat) (v1 : Int32) (h : AHeap) : Option (Unit × AHeap) :=
  some ((), h)
theorem Prog_addCase_j28_J {E : JE} {l : Launch} {G : GX} {h' : AHeap} (ok : JOK E l G kProg_addCase 0 0 none h') (v0 : Nat) (v1 : Int32) (h : AHeap) : J E kProg_addCase (Prog_addCase_j28 v0 v1 h) (fun z => z = ((), h')) 28 [some (.ref v0), some (.int v1)] [] h 0 0 := by
  unfold Prog_addCase_j28
  exact J_vreturn ok (dOf dX6_addCase 16 rfl) rfl (Eq.refl 0) (Nat.le_refl 0)
def Prog_addCase (v0 : Nat) (v1 : Int32) (h : AHeap) : Option (Unit × AHeap) :=
  (gfI h v0 6 2).bind fun x1 => (if 4 ≤ x1 then Prog_addCase_j28 v0 v1 h else (gfR h v0 6 7).bind fun a2 => (gfI h v0 6 2).bind fun x3 => (ast 0 h a2 x3 v1).bind fun h4 => (gfI h4 v0 6 2).bind fun x5 => (pfV h4 v0 6 2 (.int (x5 + 1))).bind fun h6 => Prog_addCase_j28 v0 v1 h6)
theorem t_Prog_addCase {l : Launch} {G : GX} {v0 : Nat} {v1 : Int32} {h : AHeap} {h1 : AHeap} (hf : Prog_addCase v0 v1 h = some ((), h1)) : CT l G kProg_addCase 0 0 [.ref v0, .int v1] h none h1 := by
  refine CT_of (ls := [some (.ref v0), some (.int v1)]) (Z := fun z => z = ((), h1)) (by decide +kernel) (Nat.le_of_ble_eq_true rfl) hf rfl ⟨rfl, rfl, trivial⟩ (fun E ok => ?_)
  unfold Prog_addCase
  refine J_aload_n (pc' := 1) ok (dOf dX6_addCase 0 rfl) rfl rfl rfl ?_
  refine J_getI (ci := 6) (kf := 2) (C := RX6) (T := TX6) (N := 9) (pc' := 4) ok (dOf dX6_addCase 1 rfl) rfl (by decide) rfl (by decide) win_6 wfl_X6_43 (fun x1 => ?_)
  refine J_iconst (v := 4) (pc' := 5) ok (dOf dX6_addCase 2 rfl) rfl (by decide) ?_
  refine J_icmp_ge (tgt := 28) (pc' := 8) ok (dOf dX6_addCase 3 rfl) rfl (by decide) ?_ ?_
  · exact Prog_addCase_j28_J ok v0 v1 h
  · refine J_aload_n (pc' := 9) ok (dOf dX6_addCase 4 rfl) rfl rfl rfl ?_
    refine J_getR (ci := 6) (kf := 7) (C := RX6) (T := TX6) (N := 9) (pc' := 12) ok (dOf dX6_addCase 5 rfl) rfl (by decide) rfl (by decide) win_6 wfl_X6_24 (fun a2 => ?_)
    refine J_aload_n (pc' := 13) ok (dOf dX6_addCase 6 rfl) rfl rfl rfl ?_
    refine J_getI (ci := 6) (kf := 2) (C := RX6) (T := TX6) (N := 9) (pc' := 16) ok (dOf dX6_addCase 7 rfl) rfl (by decide) rfl (by decide) win_6 wfl_X6_43 (fun x3 => ?_)
    refine J_iload_n (pc' := 17) ok (dOf dX6_addCase 8 rfl) rfl rfl rfl ?_
    refine J_iast (pc' := 18) ok (dOf dX6_addCase 9 rfl) rfl (fun h4 _ => ?_)
    refine J_aload_n (pc' := 19) ok (dOf dX6_addCase 10 rfl) rfl rfl rfl ?_
    refine J_dup (pc' := 20) ok (dOf dX6_addCase 11 rfl) rfl rfl ?_
    refine J_getI (ci := 6) (kf := 2) (C := RX6) (T := TX6) (N := 9) (pc' := 23) ok (dOf dX6_addCase 12 rfl) rfl (by decide) rfl (by decide) win_6 wfl_X6_43 (fun x5 => ?_)
    refine J_iconst (v := 1) (pc' := 24) ok (dOf dX6_addCase 13 rfl) rfl (by decide) ?_
    refine J_iadd (pc' := 25) ok (dOf dX6_addCase 14 rfl) rfl ?_
    refine J_putI (ci := 6) (kf := 2) (C := RX6) (T := TX6) (N := 9) (pc' := 28) ok tyX6 (dOf dX6_addCase 15 rfl) rfl rfl (by decide) win_6 tyX6_ok nmX6 rfl rfl wfl_X6_43 (fun h6 _ => ?_)
    exact Prog_addCase_j28_J ok v0 v1 h6
-- X9_takeCase
abbrev kTape_takeCase : Cd := (yX9_takeCase, cX9_takeCase, 5, (some .boolean), 3, 68)
theorem dX9_takeCase : dcheck cX9_takeCase [(0, .aload_n 1, 1), (1, .getfield 107, 3), (4, .iconst 4, 1), (5, .if_icmp .lt 5, 3), (8, .iconst 0, 1), (9, .ireturn, 1), (10, .aload_n 0, 1), (11, .invokevirtual 30, 3), (14, .aload_n 0, 1), (15, .iconst 1, 1), (16, .bipush 9, 2), (18, .invokevirtual 93, 3), (21, .istore_n 2, 1), (22, .iload_n 2, 1), (23, .iconst (-1), 1), (24, .if_icmp .ne 5, 3), (27, .iconst 0, 1), (28, .ireturn, 1), (29, .aload_n 1, 1), (30, .iload_n 2, 1), (31, .invokevirtual 110, 3), (34, .iconst 0, 1), (35, .istore_n 3, 1), (36, .iload_n 3, 1), (37, .aload_n 1, 1), (38, .getfield 100, 3), (41, .if_icmp .ge 52, 3), (44, .aload_n 0, 1), (45, .getfield 40, 3), (48, .iconst 2, 1), (49, .if_icmp .ne 44, 3), (52, .aload_n 0, 1), (53, .iconst 0, 1), (54, .bipush 20, 2), (56, .invokevirtual 93, 3), (59, .istore 4, 2), (61, .iload 4, 2), (63, .iconst (-1), 1), (64, .if_icmp .ne 5, 3), (67, .iconst 0, 1), (68, .ireturn, 1), (69, .aload_n 1, 1), (70, .getfield 114, 3), (73, .aload_n 1, 1), (74, .getfield 107, 3), (77, .iconst 1, 1), (78, .isub, 1), (79, .bipush 6, 2), (81, .imul, 1), (82, .iload_n 3, 1), (83, .iadd, 1), (84, .iload 4, 2), (86, .iastore, 1), (87, .iinc 3 1, 3), (90, .goto (-54), 3), (93, .iconst 1, 1), (94, .ireturn, 1)] = true := by decide +kernel
theorem cw_Tape_takeCase {k : Cd} (h1 : kTape_takeCase.2.2.2.2.1 + 1 ≤ k.2.2.2.2.1) (h2 : 8 + (kTape_takeCase.2.2.1 + 11) + kTape_takeCase.2.2.2.2.2 ≤ k.2.2.2.2.2) : Cw k kTape_takeCase 1 := ⟨wcode_X9_takeCase, wini_SplitProgram_Tape, ⟨by decide, by decide, by decide +kernel⟩, h1, h2⟩
def Tape_takeCase_b36 (v0 : Nat) (v1 : Nat) (v2 : Int32) (s : Int32 × AHeap) : Option ((Int32 × AHeap) ⊕ ((Int32 × Int32 × AHeap) ⊕ (Int32 × AHeap))) :=
  (gfI s.2 v1 6 1).bind fun x6 => (if x6 ≤ s.1 then some (Sum.inr (Sum.inr (s.1, s.2))) else (gfI s.2 v0 9 5).bind fun x7 => (if ¬ x7 = 2 then some (Sum.inr (Sum.inr (s.1, s.2))) else (chk s.2 v0 9).bind fun _ => bnd2 (Tape_takeNumber v0 0 20 s.2) fun x9 h8 => (if ¬ x9 = (-1) then (gfR h8 v1 6 8).bind fun a10 => (gfI h8 v1 6 2).bind fun x11 => (ast 0 h8 a10 (((x11 - 1) * 6) + s.1) x9).bind fun h12 => some (Sum.inl (s.1 + 1, h12)) else some (Sum.inr (Sum.inl (s.1, x9, h8))))))
theorem Tape_takeCase_b36_J {E : JE} {l : Launch} {G : GX} {r : Option Value} {h' : AHeap} (ok : JOK E l G kTape_takeCase 0 0 r h') (v0 : Nat) (v1 : Nat) (v2 : Int32) {Y : (Int32 × AHeap) ⊕ ((Int32 × Int32 × AHeap) ⊕ (Int32 × AHeap)) → Prop} (k1 : ∀ s' : Int32 × AHeap, Y (.inl s') → JW E kTape_takeCase 36 [some (.ref v0), some (.ref v1), some (.int v2), some (.int s'.1), none] [] s'.2 0 0) (kx67 : ∀ q : Int32 × Int32 × AHeap, Y (.inr (Sum.inl q)) → JW E kTape_takeCase 67 [some (.ref v0), some (.ref v1), some (.int v2), some (.int q.1), some (.int q.2.1)] [] q.2.2 0 0) (kx93 : ∀ q : Int32 × AHeap, Y (.inr (Sum.inr q)) → JW E kTape_takeCase 93 [some (.ref v0), some (.ref v1), some (.int v2), some (.int q.1), none] [] q.2 0 0) (s : Int32 × AHeap) : J E kTape_takeCase (Tape_takeCase_b36 v0 v1 v2 s) Y 36 [some (.ref v0), some (.ref v1), some (.int v2), some (.int s.1), none] [] s.2 0 0 := by
  unfold Tape_takeCase_b36
  refine J_iload_n (pc' := 37) ok (dOf dX9_takeCase 23 rfl) rfl rfl rfl ?_
  refine J_aload_n (pc' := 38) ok (dOf dX9_takeCase 24 rfl) rfl rfl rfl ?_
  refine J_getI (ci := 6) (kf := 1) (C := RX6) (T := TX6) (N := 9) (pc' := 41) ok (dOf dX9_takeCase 25 rfl) rfl (by decide) rfl (by decide) win_6 wfl_X9_100 (fun x6 => ?_)
  refine J_icmp_ge (tgt := 93) (pc' := 44) ok (dOf dX9_takeCase 26 rfl) rfl (by decide) ?_ ?_
  · exact J_fin (kx93 (s.1, s.2))
  · refine J_aload_n (pc' := 45) ok (dOf dX9_takeCase 27 rfl) rfl rfl rfl ?_
    refine J_getI (ci := 9) (kf := 5) (C := RX9) (T := TX9) (N := 6) (pc' := 48) ok (dOf dX9_takeCase 28 rfl) rfl (by decide) rfl (by decide) win_9 wfl_X9_40 (fun x7 => ?_)
    refine J_iconst (v := 2) (pc' := 49) ok (dOf dX9_takeCase 29 rfl) rfl (by decide) ?_
    refine J_icmp_ne (tgt := 93) (pc' := 52) ok (dOf dX9_takeCase 30 rfl) rfl (by decide) ?_ ?_
    · exact J_fin (kx93 (s.1, s.2))
    · refine J_aload_n (pc' := 53) ok (dOf dX9_takeCase 31 rfl) rfl rfl rfl ?_
      refine J_iconst (v := 0) (pc' := 54) ok (dOf dX9_takeCase 32 rfl) rfl (by decide) ?_
      refine J_bipush (v := 20) (pc' := 56) ok (dOf dX9_takeCase 33 rfl) rfl (by decide) ?_
      refine J_callVi (k2 := kTape_takeNumber) (ci := 9) (T := TX9) (N := 6) (as := [.int 0, .int 20]) (pc' := 59) ok (dOf dX9_takeCase 34 rfl) rfl (cw_Tape_takeNumber (by decide) (by decide)) wml_X9_93 winst_X9_takeNumber wsel_X9_takeNumber rfl ⟨Nat.le_refl 0, Nat.le_refl 0⟩ (Nat.le_of_ble_eq_true rfl) rfl (fun _ _ hf => t_Tape_takeNumber hf) (fun x9 h8 => ?_)
      refine J_istore (ls' := [some (.ref v0), some (.ref v1), some (.int v2), some (.int s.1), some (.int x9)]) (pc' := 61) ok (dOf dX9_takeCase 35 rfl) rfl (Nat.le_of_ble_eq_true rfl) rfl rfl ?_
      refine J_iload (pc' := 63) ok (dOf dX9_takeCase 36 rfl) rfl rfl ?_
      refine J_iconst (v := (-1)) (pc' := 64) ok (dOf dX9_takeCase 37 rfl) rfl (by decide) ?_
      refine J_icmp_ne (tgt := 69) (pc' := 67) ok (dOf dX9_takeCase 38 rfl) rfl (by decide) ?_ ?_
      · refine J_aload_n (pc' := 70) ok (dOf dX9_takeCase 41 rfl) rfl rfl rfl ?_
        refine J_getR (ci := 6) (kf := 8) (C := RX6) (T := TX6) (N := 9) (pc' := 73) ok (dOf dX9_takeCase 42 rfl) rfl (by decide) rfl (by decide) win_6 wfl_X9_114 (fun a10 => ?_)
        refine J_aload_n (pc' := 74) ok (dOf dX9_takeCase 43 rfl) rfl rfl rfl ?_
        refine J_getI (ci := 6) (kf := 2) (C := RX6) (T := TX6) (N := 9) (pc' := 77) ok (dOf dX9_takeCase 44 rfl) rfl (by decide) rfl (by decide) win_6 wfl_X9_107 (fun x11 => ?_)
        refine J_iconst (v := 1) (pc' := 78) ok (dOf dX9_takeCase 45 rfl) rfl (by decide) ?_
        refine J_isub (pc' := 79) ok (dOf dX9_takeCase 46 rfl) rfl ?_
        refine J_bipush (v := 6) (pc' := 81) ok (dOf dX9_takeCase 47 rfl) rfl (by decide) ?_
        refine J_imul (pc' := 82) ok (dOf dX9_takeCase 48 rfl) rfl ?_
        refine J_iload_n (pc' := 83) ok (dOf dX9_takeCase 49 rfl) rfl rfl rfl ?_
        refine J_iadd (pc' := 84) ok (dOf dX9_takeCase 50 rfl) rfl ?_
        refine J_iload (pc' := 86) ok (dOf dX9_takeCase 51 rfl) rfl rfl ?_
        refine J_iast (pc' := 87) ok (dOf dX9_takeCase 52 rfl) rfl (fun h12 _ => ?_)
        refine J_iinc (v := s.1 + 1) (ls' := [some (.ref v0), some (.ref v1), some (.int v2), some (.int (s.1 + 1)), some (.int x9)]) (pc' := 90) ok (dOf dX9_takeCase 53 rfl) rfl rfl (by rfl) (Nat.le_of_ble_eq_true rfl) rfl rfl ?_
        refine J_goto (tgt := 36) ok (dOf dX9_takeCase 54 rfl) (by decide) ?_
        refine J_weak (ls' := [some (.ref v0), some (.ref v1), some (.int v2), some (.int (s.1 + 1)), none]) ⟨rfl, rfl, rfl, rfl, trivial⟩ ?_
        exact J_fin (k1 (s.1 + 1, h12))
      · exact J_fin (kx67 (s.1, x9, h8))
def Tape_takeCase_j67 (v0 : Nat) (v1 : Nat) (v2 : Int32) (v3 : Int32) (v4 : Int32) (h : AHeap) : Option (Int32 × AHeap) :=
  (bz 0).bind fun z => some (z, h)
theorem Tape_takeCase_j67_J {E : JE} {l : Launch} {G : GX} {v : Int32} {h' : AHeap} (ok : JOK E l G kTape_takeCase 0 0 (some (.int v)) h') (v0 : Nat) (v1 : Nat) (v2 : Int32) (v3 : Int32) (v4 : Int32) (h : AHeap) : J E kTape_takeCase (Tape_takeCase_j67 v0 v1 v2 v3 v4 h) (fun z => z = (v, h')) 67 [some (.ref v0), some (.ref v1), some (.int v2), some (.int v3), some (.int v4)] [] h 0 0 := by
  unfold Tape_takeCase_j67
  refine J_iconst (v := 0) (pc' := 68) ok (dOf dX9_takeCase 39 rfl) rfl (by decide) ?_
  exact J_zreturn ok (dOf dX9_takeCase 40 rfl) rfl (Eq.refl 0) (Nat.le_refl 0)
def Tape_takeCase_j93 (v0 : Nat) (v1 : Nat) (v2 : Int32) (v3 : Int32) (h : AHeap) : Option (Int32 × AHeap) :=
  (bz 1).bind fun z => some (z, h)
theorem Tape_takeCase_j93_J {E : JE} {l : Launch} {G : GX} {v : Int32} {h' : AHeap} (ok : JOK E l G kTape_takeCase 0 0 (some (.int v)) h') (v0 : Nat) (v1 : Nat) (v2 : Int32) (v3 : Int32) (h : AHeap) : J E kTape_takeCase (Tape_takeCase_j93 v0 v1 v2 v3 h) (fun z => z = (v, h')) 93 [some (.ref v0), some (.ref v1), some (.int v2), some (.int v3), none] [] h 0 0 := by
  unfold Tape_takeCase_j93
  refine J_iconst (v := 1) (pc' := 94) ok (dOf dX9_takeCase 55 rfl) rfl (by decide) ?_
  exact J_zreturn ok (dOf dX9_takeCase 56 rfl) rfl (Eq.refl 0) (Nat.le_refl 0)
def Tape_takeCase (v0 : Nat) (v1 : Nat) (h : AHeap) : Option (Int32 × AHeap) :=
  (gfI h v1 6 2).bind fun x1 => (if x1 < 4 then (chk h v0 9).bind fun _ => bnd2 (Tape_step v0 h) fun _ h2 => (chk h2 v0 9).bind fun _ => bnd2 (Tape_takeNumber v0 1 9 h2) fun x4 h3 => (if ¬ x4 = (-1) then (chk h3 v1 6).bind fun _ => bnd2 (Prog_addCase v1 x4 h3) fun _ h5 => (iter (Tape_takeCase_b36 v0 v1 x4) Lmax (0, h5)).bind (Sum.elim (fun (q36 : Int32 × Int32 × AHeap) => Tape_takeCase_j67 v0 v1 x4 q36.1 q36.2.1 q36.2.2) (fun (q36 : Int32 × AHeap) => Tape_takeCase_j93 v0 v1 x4 q36.1 q36.2)) else (bz 0).bind fun z => some (z, h3)) else (bz 0).bind fun z => some (z, h))
theorem t_Tape_takeCase {l : Launch} {G : GX} {v0 : Nat} {v1 : Nat} {h : AHeap} {v : Int32} {h1 : AHeap} (hf : Tape_takeCase v0 v1 h = some (v, h1)) : CT l G kTape_takeCase 0 0 [.ref v0, .ref v1] h (some (.int v)) h1 := by
  refine CT_of (ls := [some (.ref v0), some (.ref v1), none, none, none]) (Z := fun z => z = (v, h1)) (by decide +kernel) (Nat.le_of_ble_eq_true rfl) hf rfl ⟨rfl, rfl, trivial⟩ (fun E ok => ?_)
  unfold Tape_takeCase
  refine J_aload_n (pc' := 1) ok (dOf dX9_takeCase 0 rfl) rfl rfl rfl ?_
  refine J_getI (ci := 6) (kf := 2) (C := RX6) (T := TX6) (N := 9) (pc' := 4) ok (dOf dX9_takeCase 1 rfl) rfl (by decide) rfl (by decide) win_6 wfl_X9_107 (fun x1 => ?_)
  refine J_iconst (v := 4) (pc' := 5) ok (dOf dX9_takeCase 2 rfl) rfl (by decide) ?_
  refine J_icmp_lt (tgt := 10) (pc' := 8) ok (dOf dX9_takeCase 3 rfl) rfl (by decide) ?_ ?_
  · refine J_aload_n (pc' := 11) ok (dOf dX9_takeCase 6 rfl) rfl rfl rfl ?_
    refine J_callVv (k2 := kTape_step) (ci := 9) (T := TX9) (N := 6) (as := []) (pc' := 14) ok (dOf dX9_takeCase 7 rfl) rfl (cw_Tape_step (by decide) (by decide)) wml_X9_30 winst_X9_step wsel_X9_step rfl ⟨Nat.le_refl 0, Nat.le_refl 0⟩ (Nat.le_of_ble_eq_true rfl) rfl (fun _ _ hf => t_Tape_step hf) (fun _ h2 => ?_)
    refine J_aload_n (pc' := 15) ok (dOf dX9_takeCase 8 rfl) rfl rfl rfl ?_
    refine J_iconst (v := 1) (pc' := 16) ok (dOf dX9_takeCase 9 rfl) rfl (by decide) ?_
    refine J_bipush (v := 9) (pc' := 18) ok (dOf dX9_takeCase 10 rfl) rfl (by decide) ?_
    refine J_callVi (k2 := kTape_takeNumber) (ci := 9) (T := TX9) (N := 6) (as := [.int 1, .int 9]) (pc' := 21) ok (dOf dX9_takeCase 11 rfl) rfl (cw_Tape_takeNumber (by decide) (by decide)) wml_X9_93 winst_X9_takeNumber wsel_X9_takeNumber rfl ⟨Nat.le_refl 0, Nat.le_refl 0⟩ (Nat.le_of_ble_eq_true rfl) rfl (fun _ _ hf => t_Tape_takeNumber hf) (fun x4 h3 => ?_)
    refine J_istore_n (ls' := [some (.ref v0), some (.ref v1), some (.int x4), none, none]) (pc' := 22) ok (dOf dX9_takeCase 12 rfl) rfl rfl (Nat.le_of_ble_eq_true rfl) rfl rfl ?_
    refine J_iload_n (pc' := 23) ok (dOf dX9_takeCase 13 rfl) rfl rfl rfl ?_
    refine J_iconst (v := (-1)) (pc' := 24) ok (dOf dX9_takeCase 14 rfl) rfl (by decide) ?_
    refine J_icmp_ne (tgt := 29) (pc' := 27) ok (dOf dX9_takeCase 15 rfl) rfl (by decide) ?_ ?_
    · refine J_aload_n (pc' := 30) ok (dOf dX9_takeCase 18 rfl) rfl rfl rfl ?_
      refine J_iload_n (pc' := 31) ok (dOf dX9_takeCase 19 rfl) rfl rfl rfl ?_
      refine J_callVv (k2 := kProg_addCase) (ci := 6) (T := TX6) (N := 9) (as := [.int x4]) (pc' := 34) ok (dOf dX9_takeCase 20 rfl) rfl (cw_Prog_addCase (by decide) (by decide)) wml_X9_110 winst_X6_addCase wsel_X6_addCase rfl ⟨Nat.le_refl 0, Nat.le_refl 0⟩ (Nat.le_of_ble_eq_true rfl) rfl (fun _ _ hf => t_Prog_addCase hf) (fun _ h5 => ?_)
      refine J_iconst (v := 0) (pc' := 35) ok (dOf dX9_takeCase 21 rfl) rfl (by decide) ?_
      refine J_istore_n (ls' := [some (.ref v0), some (.ref v1), some (.int x4), some (.int 0), none]) (pc' := 36) ok (dOf dX9_takeCase 22 rfl) rfl rfl (Nat.le_of_ble_eq_true rfl) rfl rfl ?_
      refine J_iter (lf := fun z36 => [some (.ref v0), some (.ref v1), some (.int x4), some (.int z36.1), none]) (sf := fun _ => []) (hf := fun z36 => z36.2) (px := (Sum.elim (fun (q36 : Int32 × Int32 × AHeap) => 67) (fun (q36 : Int32 × AHeap) => 93))) (lx := (Sum.elim (fun (q36 : Int32 × Int32 × AHeap) => [some (.ref v0), some (.ref v1), some (.int x4), some (.int q36.1), some (.int q36.2.1)]) (fun (q36 : Int32 × AHeap) => [some (.ref v0), some (.ref v1), some (.int x4), some (.int q36.1), none]))) (sx := (Sum.elim (fun (q36 : Int32 × Int32 × AHeap) => []) (fun (q36 : Int32 × AHeap) => []))) (hx := (Sum.elim (fun (q36 : Int32 × Int32 × AHeap) => q36.2.2) (fun (q36 : Int32 × AHeap) => q36.2))) (fun Y2 z36 m1 m2 => Tape_takeCase_b36_J ok v0 v1 x4 m1 (fun q hq => m2 (Sum.inl q) hq) (fun q hq => m2 (Sum.inr q) hq) z36) (fun q36 => ?_) Lmax _
      rcases q36 with q36 | q36
      · show J E kTape_takeCase (Tape_takeCase_j67 v0 v1 x4 q36.1 q36.2.1 q36.2.2) _ 67 [some (.ref v0), some (.ref v1), some (.int x4), some (.int q36.1), some (.int q36.2.1)] [] q36.2.2 0 0
        exact Tape_takeCase_j67_J ok v0 v1 x4 q36.1 q36.2.1 q36.2.2
      · show J E kTape_takeCase (Tape_takeCase_j93 v0 v1 x4 q36.1 q36.2) _ 93 [some (.ref v0), some (.ref v1), some (.int x4), some (.int q36.1), none] [] q36.2 0 0
        exact Tape_takeCase_j93_J ok v0 v1 x4 q36.1 q36.2
    · refine J_iconst (v := 0) (pc' := 28) ok (dOf dX9_takeCase 16 rfl) rfl (by decide) ?_
      exact J_zreturn ok (dOf dX9_takeCase 17 rfl) rfl (Eq.refl 0) (Nat.le_refl 0)
  · refine J_iconst (v := 0) (pc' := 9) ok (dOf dX9_takeCase 4 rfl) rfl (by decide) ?_
    exact J_zreturn ok (dOf dX9_takeCase 5 rfl) rfl (Eq.refl 0) (Nat.le_refl 0)
-- X9_takeLine
abbrev kTape_takeLine : Cd := (yX9_takeLine, cX9_takeLine, 2, (some .boolean), 5, 107)
theorem dX9_takeLine : dcheck cX9_takeLine [(0, .aload_n 0, 1), (1, .ldc 66, 2), (3, .invokevirtual 68, 3), (6, .ifCond .eq 9, 3), (9, .aload_n 0, 1), (10, .aload_n 1, 1), (11, .invokevirtual 72, 3), (14, .ireturn, 1), (15, .aload_n 0, 1), (16, .ldc 75, 2), (18, .invokevirtual 68, 3), (21, .ifCond .eq 9, 3), (24, .aload_n 0, 1), (25, .aload_n 1, 1), (26, .invokevirtual 77, 3), (29, .ireturn, 1), (30, .aload_n 0, 1), (31, .ldc 80, 2), (33, .invokevirtual 68, 3), (36, .ifCond .eq 9, 3), (39, .aload_n 0, 1), (40, .aload_n 1, 1), (41, .invokevirtual 82, 3), (44, .ireturn, 1), (45, .aload_n 0, 1), (46, .ldc 85, 2), (48, .invokevirtual 68, 3), (51, .ifCond .eq 15, 3), (54, .aload_n 0, 1), (55, .aload_n 1, 1), (56, .invokevirtual 87, 3), (59, .ifCond .eq 7, 3), (62, .iconst 1, 1), (63, .goto 4, 3), (66, .iconst 0, 1), (67, .ireturn, 1)] = true := by decide +kernel
theorem cw_Tape_takeLine {k : Cd} (h1 : kTape_takeLine.2.2.2.2.1 + 1 ≤ k.2.2.2.2.1) (h2 : 8 + (kTape_takeLine.2.2.1 + 11) + kTape_takeLine.2.2.2.2.2 ≤ k.2.2.2.2.2) : Cw k kTape_takeLine 1 := ⟨wcode_X9_takeLine, wini_SplitProgram_Tape, ⟨by decide, by decide, by decide +kernel⟩, h1, h2⟩
def Tape_takeLine_j67 (v0 : Nat) (v1 : Nat) (t0 : Int32) (h : AHeap) : Option (Int32 × AHeap) :=
  (bz t0).bind fun z => some (z, h)
theorem Tape_takeLine_j67_J {E : JE} {l : Launch} {G : GX} {v : Int32} {h' : AHeap} (ok : JOK E l G kTape_takeLine 0 0 (some (.int v)) h') (v0 : Nat) (v1 : Nat) (t0 : Int32) (h : AHeap) : J E kTape_takeLine (Tape_takeLine_j67 v0 v1 t0 h) (fun z => z = (v, h')) 67 [some (.ref v0), some (.ref v1)] [.int t0] h 0 0 := by
  unfold Tape_takeLine_j67
  exact J_zreturn ok (dOf dX9_takeLine 35 rfl) rfl (Eq.refl 0) (Nat.le_refl 0)
def Tape_takeLine_j66 (v0 : Nat) (v1 : Nat) (h : AHeap) : Option (Int32 × AHeap) :=
  Tape_takeLine_j67 v0 v1 0 h
theorem Tape_takeLine_j66_J {E : JE} {l : Launch} {G : GX} {v : Int32} {h' : AHeap} (ok : JOK E l G kTape_takeLine 0 0 (some (.int v)) h') (v0 : Nat) (v1 : Nat) (h : AHeap) : J E kTape_takeLine (Tape_takeLine_j66 v0 v1 h) (fun z => z = (v, h')) 66 [some (.ref v0), some (.ref v1)] [] h 0 0 := by
  unfold Tape_takeLine_j66
  refine J_iconst (v := 0) (pc' := 67) ok (dOf dX9_takeLine 34 rfl) rfl (by decide) ?_
  exact Tape_takeLine_j67_J ok v0 v1 0 h
def Tape_takeLine (v0 : Nat) (v1 : Nat) (h : AHeap) : Option (Int32 × AHeap) :=
  (chk h v0 9).bind fun _ => bnd2 (Tape_isWord v0 (FB + 2) h) fun x2 h1 => (if x2 = 0 then (chk h1 v0 9).bind fun _ => bnd2 (Tape_isWord v0 (FB + 3) h1) fun x4 h3 => (if x4 = 0 then (chk h3 v0 9).bind fun _ => bnd2 (Tape_isWord v0 (FB + 4) h3) fun x6 h5 => (if x6 = 0 then (chk h5 v0 9).bind fun _ => bnd2 (Tape_isWord v0 (FB + 5) h5) fun x8 h7 => (if x8 = 0 then Tape_takeLine_j66 v0 v1 h7 else (chk h7 v0 9).bind fun _ => bnd2 (Tape_takeCase v0 v1 h7) fun x10 h9 => (if x10 = 0 then Tape_takeLine_j66 v0 v1 h9 else Tape_takeLine_j67 v0 v1 1 h9)) else (chk h5 v0 9).bind fun _ => bnd2 (Tape_takeRoad v0 v1 h5) fun x12 h11 => (bz x12).bind fun z => some (z, h11)) else (chk h3 v0 9).bind fun _ => bnd2 (Tape_takeSite v0 v1 h3) fun x14 h13 => (bz x14).bind fun z => some (z, h13)) else (chk h1 v0 9).bind fun _ => bnd2 (Tape_takePlant v0 v1 h1) fun x16 h15 => (bz x16).bind fun z => some (z, h15))
theorem t_Tape_takeLine {l : Launch} {G : GX} {v0 : Nat} {v1 : Nat} {h : AHeap} {v : Int32} {h1 : AHeap} (hf : Tape_takeLine v0 v1 h = some (v, h1)) : CT l G kTape_takeLine 0 0 [.ref v0, .ref v1] h (some (.int v)) h1 := by
  refine CT_of (ls := [some (.ref v0), some (.ref v1)]) (Z := fun z => z = (v, h1)) (by decide +kernel) (Nat.le_of_ble_eq_true rfl) hf rfl ⟨rfl, rfl, trivial⟩ (fun E ok => ?_)
  unfold Tape_takeLine
  refine J_aload_n (pc' := 1) ok (dOf dX9_takeLine 0 rfl) rfl rfl rfl ?_
  refine J_ldcS (tx := "plant") (q := 2) (pc' := 3) ok (dOf dX9_takeLine 1 rfl) rfl (by decide) ?_
  refine J_callVi (k2 := kTape_isWord) (ci := 9) (T := TX9) (N := 6) (as := [.ref (FB + 2)]) (pc' := 6) ok (dOf dX9_takeLine 2 rfl) rfl (cw_Tape_isWord (by decide) (by decide)) wml_X9_68 winst_X9_isWord wsel_X9_isWord rfl ⟨Nat.le_refl 0, Nat.le_refl 0⟩ (Nat.le_of_ble_eq_true rfl) rfl (fun _ _ hf => t_Tape_isWord hf) (fun x2 h1 => ?_)
  refine J_if_eq (tgt := 15) (pc' := 9) ok (dOf dX9_takeLine 3 rfl) rfl (by decide) ?_ ?_
  · refine J_aload_n (pc' := 16) ok (dOf dX9_takeLine 8 rfl) rfl rfl rfl ?_
    refine J_ldcS (tx := "site") (q := 3) (pc' := 18) ok (dOf dX9_takeLine 9 rfl) rfl (by decide) ?_
    refine J_callVi (k2 := kTape_isWord) (ci := 9) (T := TX9) (N := 6) (as := [.ref (FB + 3)]) (pc' := 21) ok (dOf dX9_takeLine 10 rfl) rfl (cw_Tape_isWord (by decide) (by decide)) wml_X9_68 winst_X9_isWord wsel_X9_isWord rfl ⟨Nat.le_refl 0, Nat.le_refl 0⟩ (Nat.le_of_ble_eq_true rfl) rfl (fun _ _ hf => t_Tape_isWord hf) (fun x4 h3 => ?_)
    refine J_if_eq (tgt := 30) (pc' := 24) ok (dOf dX9_takeLine 11 rfl) rfl (by decide) ?_ ?_
    · refine J_aload_n (pc' := 31) ok (dOf dX9_takeLine 16 rfl) rfl rfl rfl ?_
      refine J_ldcS (tx := "road") (q := 4) (pc' := 33) ok (dOf dX9_takeLine 17 rfl) rfl (by decide) ?_
      refine J_callVi (k2 := kTape_isWord) (ci := 9) (T := TX9) (N := 6) (as := [.ref (FB + 4)]) (pc' := 36) ok (dOf dX9_takeLine 18 rfl) rfl (cw_Tape_isWord (by decide) (by decide)) wml_X9_68 winst_X9_isWord wsel_X9_isWord rfl ⟨Nat.le_refl 0, Nat.le_refl 0⟩ (Nat.le_of_ble_eq_true rfl) rfl (fun _ _ hf => t_Tape_isWord hf) (fun x6 h5 => ?_)
      refine J_if_eq (tgt := 45) (pc' := 39) ok (dOf dX9_takeLine 19 rfl) rfl (by decide) ?_ ?_
      · refine J_aload_n (pc' := 46) ok (dOf dX9_takeLine 24 rfl) rfl rfl rfl ?_
        refine J_ldcS (tx := "case") (q := 5) (pc' := 48) ok (dOf dX9_takeLine 25 rfl) rfl (by decide) ?_
        refine J_callVi (k2 := kTape_isWord) (ci := 9) (T := TX9) (N := 6) (as := [.ref (FB + 5)]) (pc' := 51) ok (dOf dX9_takeLine 26 rfl) rfl (cw_Tape_isWord (by decide) (by decide)) wml_X9_68 winst_X9_isWord wsel_X9_isWord rfl ⟨Nat.le_refl 0, Nat.le_refl 0⟩ (Nat.le_of_ble_eq_true rfl) rfl (fun _ _ hf => t_Tape_isWord hf) (fun x8 h7 => ?_)
        refine J_if_eq (tgt := 66) (pc' := 54) ok (dOf dX9_takeLine 27 rfl) rfl (by decide) ?_ ?_
        · exact Tape_takeLine_j66_J ok v0 v1 h7
        · refine J_aload_n (pc' := 55) ok (dOf dX9_takeLine 28 rfl) rfl rfl rfl ?_
          refine J_aload_n (pc' := 56) ok (dOf dX9_takeLine 29 rfl) rfl rfl rfl ?_
          refine J_callVi (k2 := kTape_takeCase) (ci := 9) (T := TX9) (N := 6) (as := [.ref v1]) (pc' := 59) ok (dOf dX9_takeLine 30 rfl) rfl (cw_Tape_takeCase (by decide) (by decide)) wml_X9_87 winst_X9_takeCase wsel_X9_takeCase rfl ⟨Nat.le_refl 0, Nat.le_refl 0⟩ (Nat.le_of_ble_eq_true rfl) rfl (fun _ _ hf => t_Tape_takeCase hf) (fun x10 h9 => ?_)
          refine J_if_eq (tgt := 66) (pc' := 62) ok (dOf dX9_takeLine 31 rfl) rfl (by decide) ?_ ?_
          · exact Tape_takeLine_j66_J ok v0 v1 h9
          · refine J_iconst (v := 1) (pc' := 63) ok (dOf dX9_takeLine 32 rfl) rfl (by decide) ?_
            refine J_goto (tgt := 67) ok (dOf dX9_takeLine 33 rfl) (by decide) ?_
            exact Tape_takeLine_j67_J ok v0 v1 1 h9
      · refine J_aload_n (pc' := 40) ok (dOf dX9_takeLine 20 rfl) rfl rfl rfl ?_
        refine J_aload_n (pc' := 41) ok (dOf dX9_takeLine 21 rfl) rfl rfl rfl ?_
        refine J_callVi (k2 := kTape_takeRoad) (ci := 9) (T := TX9) (N := 6) (as := [.ref v1]) (pc' := 44) ok (dOf dX9_takeLine 22 rfl) rfl (cw_Tape_takeRoad (by decide) (by decide)) wml_X9_82 winst_X9_takeRoad wsel_X9_takeRoad rfl ⟨Nat.le_refl 0, Nat.le_refl 0⟩ (Nat.le_of_ble_eq_true rfl) rfl (fun _ _ hf => t_Tape_takeRoad hf) (fun x12 h11 => ?_)
        exact J_zreturn ok (dOf dX9_takeLine 23 rfl) rfl (Eq.refl 0) (Nat.le_refl 0)
    · refine J_aload_n (pc' := 25) ok (dOf dX9_takeLine 12 rfl) rfl rfl rfl ?_
      refine J_aload_n (pc' := 26) ok (dOf dX9_takeLine 13 rfl) rfl rfl rfl ?_
      refine J_callVi (k2 := kTape_takeSite) (ci := 9) (T := TX9) (N := 6) (as := [.ref v1]) (pc' := 29) ok (dOf dX9_takeLine 14 rfl) rfl (cw_Tape_takeSite (by decide) (by decide)) wml_X9_77 winst_X9_takeSite wsel_X9_takeSite rfl ⟨Nat.le_refl 0, Nat.le_refl 0⟩ (Nat.le_of_ble_eq_true rfl) rfl (fun _ _ hf => t_Tape_takeSite hf) (fun x14 h13 => ?_)
      exact J_zreturn ok (dOf dX9_takeLine 15 rfl) rfl (Eq.refl 0) (Nat.le_refl 0)
  · refine J_aload_n (pc' := 10) ok (dOf dX9_takeLine 4 rfl) rfl rfl rfl ?_
    refine J_aload_n (pc' := 11) ok (dOf dX9_takeLine 5 rfl) rfl rfl rfl ?_
    refine J_callVi (k2 := kTape_takePlant) (ci := 9) (T := TX9) (N := 6) (as := [.ref v1]) (pc' := 14) ok (dOf dX9_takeLine 6 rfl) rfl (cw_Tape_takePlant (by decide) (by decide)) wml_X9_72 winst_X9_takePlant wsel_X9_takePlant rfl ⟨Nat.le_refl 0, Nat.le_refl 0⟩ (Nat.le_of_ble_eq_true rfl) rfl (fun _ _ hf => t_Tape_takePlant hf) (fun x16 h15 => ?_)
    exact J_zreturn ok (dOf dX9_takeLine 7 rfl) rfl (Eq.refl 0) (Nat.le_refl 0)
-- X9_parse
abbrev kTape_parse : Cd := (yX9_parse, cX9_parse, 4, (some .int), 6, 128)
theorem dX9_parse : dcheck cX9_parse [(0, .aload_n 1, 1), (1, .invokevirtual 22, 3), (4, .aload_n 0, 1), (5, .iconst 0, 1), (6, .putfield 27, 3), (9, .aload_n 0, 1), (10, .iconst (-1), 1), (11, .putfield 15, 3), (14, .aload_n 0, 1), (15, .invokevirtual 30, 3), (18, .iconst 0, 1), (19, .istore_n 2, 1), (20, .iconst 0, 1), (21, .istore_n 3, 1), (22, .iload_n 3, 1), (23, .sipush 400, 3), (26, .if_icmp .ge 75, 3), (29, .aload_n 0, 1), (30, .aload_n 1, 1), (31, .invokevirtual 33, 3), (34, .ifCond .ne 13, 3), (37, .aload_n 0, 1), (38, .aload_n 0, 1), (39, .getfield 37, 3), (42, .putfield 15, 3), (45, .iconst (-1), 1), (46, .ireturn, 1), (47, .iinc 2 1, 3), (50, .aload_n 0, 1), (51, .getfield 40, 3), (54, .ifCond .ne 5, 3), (57, .iload_n 2, 1), (58, .ireturn, 1), (59, .aload_n 0, 1), (60, .getfield 40, 3), (63, .iconst 3, 1), (64, .if_icmp .ne 17, 3), (67, .aload_n 0, 1), (68, .getfield 11, 3), (71, .aload_n 0, 1), (72, .getfield 37, 3), (75, .baload, 1), (76, .bipush 59, 2), (78, .if_icmp .eq 13, 3), (81, .aload_n 0, 1), (82, .aload_n 0, 1), (83, .getfield 37, 3), (86, .putfield 15, 3), (89, .iconst (-1), 1), (90, .ireturn, 1), (91, .aload_n 0, 1), (92, .invokevirtual 30, 3), (95, .iinc 3 1, 3), (98, .goto (-76), 3), (101, .aload_n 0, 1), (102, .aload_n 0, 1), (103, .getfield 37, 3), (106, .putfield 15, 3), (109, .iconst (-1), 1), (110, .ireturn, 1)] = true := by decide +kernel
theorem cw_Tape_parse {k : Cd} (h1 : kTape_parse.2.2.2.2.1 + 1 ≤ k.2.2.2.2.1) (h2 : 8 + (kTape_parse.2.2.1 + 11) + kTape_parse.2.2.2.2.2 ≤ k.2.2.2.2.2) : Cw k kTape_parse 1 := ⟨wcode_X9_parse, wini_SplitProgram_Tape, ⟨by decide, by decide, by decide +kernel⟩, h1, h2⟩
def Tape_parse_b22 (v0 : Nat) (v1 : Nat) (s : Int32 × Int32 × AHeap) : Option ((Int32 × Int32 × AHeap) ⊕ ((Int32 × Int32 × AHeap) ⊕ (Int32 × Int32 × AHeap) ⊕ (Int32 × Int32 × AHeap) ⊕ (Int32 × Int32 × AHeap))) :=
  (if 400 ≤ s.2.1 then some (Sum.inr (Sum.inr (Sum.inr (Sum.inr (s.1, s.2.1, s.2.2))))) else (chk s.2.2 v0 9).bind fun _ => bnd2 (Tape_takeLine v0 v1 s.2.2) fun x6 h5 => (if ¬ x6 = 0 then (gfI h5 v0 9 5).bind fun x7 => (if ¬ x7 = 0 then (gfI h5 v0 9 5).bind fun x8 => (if ¬ x8 = 3 then some (Sum.inr (Sum.inr (Sum.inr (Sum.inl (s.1 + 1, s.2.1, h5))))) else (gfR h5 v0 9 0).bind fun a9 => (gfI h5 v0 9 3).bind fun x10 => (ald 2 h5 a9 x10).bind fun x11 => (if x11 = 59 then (chk h5 v0 9).bind fun _ => bnd2 (Tape_step v0 h5) fun _ h12 => some (Sum.inl (s.1 + 1, s.2.1 + 1, h12)) else some (Sum.inr (Sum.inr (Sum.inr (Sum.inl (s.1 + 1, s.2.1, h5))))))) else some (Sum.inr (Sum.inr (Sum.inl (s.1 + 1, s.2.1, h5))))) else some (Sum.inr (Sum.inl (s.1, s.2.1, h5)))))
theorem Tape_parse_b22_J {E : JE} {l : Launch} {G : GX} {r : Option Value} {h' : AHeap} (ok : JOK E l G kTape_parse 0 0 r h') (v0 : Nat) (v1 : Nat) {Y : (Int32 × Int32 × AHeap) ⊕ ((Int32 × Int32 × AHeap) ⊕ (Int32 × Int32 × AHeap) ⊕ (Int32 × Int32 × AHeap) ⊕ (Int32 × Int32 × AHeap)) → Prop} (k1 : ∀ s' : Int32 × Int32 × AHeap, Y (.inl s') → JW E kTape_parse 22 [some (.ref v0), some (.ref v1), some (.int s'.1), some (.int s'.2.1)] [] s'.2.2 0 0) (kx37 : ∀ q : Int32 × Int32 × AHeap, Y (.inr (Sum.inl q)) → JW E kTape_parse 37 [some (.ref v0), some (.ref v1), some (.int q.1), some (.int q.2.1)] [] q.2.2 0 0) (kx57 : ∀ q : Int32 × Int32 × AHeap, Y (.inr (Sum.inr (Sum.inl q))) → JW E kTape_parse 57 [some (.ref v0), some (.ref v1), some (.int q.1), some (.int q.2.1)] [] q.2.2 0 0) (kx81 : ∀ q : Int32 × Int32 × AHeap, Y (.inr (Sum.inr (Sum.inr (Sum.inl q)))) → JW E kTape_parse 81 [some (.ref v0), some (.ref v1), some (.int q.1), some (.int q.2.1)] [] q.2.2 0 0) (kx101 : ∀ q : Int32 × Int32 × AHeap, Y (.inr (Sum.inr (Sum.inr (Sum.inr q)))) → JW E kTape_parse 101 [some (.ref v0), some (.ref v1), some (.int q.1), some (.int q.2.1)] [] q.2.2 0 0) (s : Int32 × Int32 × AHeap) : J E kTape_parse (Tape_parse_b22 v0 v1 s) Y 22 [some (.ref v0), some (.ref v1), some (.int s.1), some (.int s.2.1)] [] s.2.2 0 0 := by
  unfold Tape_parse_b22
  refine J_iload_n (pc' := 23) ok (dOf dX9_parse 14 rfl) rfl rfl rfl ?_
  refine J_sipush (v := 400) (pc' := 26) ok (dOf dX9_parse 15 rfl) rfl (by decide) ?_
  refine J_icmp_ge (tgt := 101) (pc' := 29) ok (dOf dX9_parse 16 rfl) rfl (by decide) ?_ ?_
  · exact J_fin (kx101 (s.1, s.2.1, s.2.2))
  · refine J_aload_n (pc' := 30) ok (dOf dX9_parse 17 rfl) rfl rfl rfl ?_
    refine J_aload_n (pc' := 31) ok (dOf dX9_parse 18 rfl) rfl rfl rfl ?_
    refine J_callVi (k2 := kTape_takeLine) (ci := 9) (T := TX9) (N := 6) (as := [.ref v1]) (pc' := 34) ok (dOf dX9_parse 19 rfl) rfl (cw_Tape_takeLine (by decide) (by decide)) wml_X9_33 winst_X9_takeLine wsel_X9_takeLine rfl ⟨Nat.le_refl 0, Nat.le_refl 0⟩ (Nat.le_of_ble_eq_true rfl) rfl (fun _ _ hf => t_Tape_takeLine hf) (fun x6 h5 => ?_)
    refine J_if_ne (tgt := 47) (pc' := 37) ok (dOf dX9_parse 20 rfl) rfl (by decide) ?_ ?_
    · refine J_iinc (v := s.1 + 1) (ls' := [some (.ref v0), some (.ref v1), some (.int (s.1 + 1)), some (.int s.2.1)]) (pc' := 50) ok (dOf dX9_parse 27 rfl) rfl rfl (by rfl) (Nat.le_of_ble_eq_true rfl) rfl rfl ?_
      refine J_aload_n (pc' := 51) ok (dOf dX9_parse 28 rfl) rfl rfl rfl ?_
      refine J_getI (ci := 9) (kf := 5) (C := RX9) (T := TX9) (N := 6) (pc' := 54) ok (dOf dX9_parse 29 rfl) rfl (by decide) rfl (by decide) win_9 wfl_X9_40 (fun x7 => ?_)
      refine J_if_ne (tgt := 59) (pc' := 57) ok (dOf dX9_parse 30 rfl) rfl (by decide) ?_ ?_
      · refine J_aload_n (pc' := 60) ok (dOf dX9_parse 33 rfl) rfl rfl rfl ?_
        refine J_getI (ci := 9) (kf := 5) (C := RX9) (T := TX9) (N := 6) (pc' := 63) ok (dOf dX9_parse 34 rfl) rfl (by decide) rfl (by decide) win_9 wfl_X9_40 (fun x8 => ?_)
        refine J_iconst (v := 3) (pc' := 64) ok (dOf dX9_parse 35 rfl) rfl (by decide) ?_
        refine J_icmp_ne (tgt := 81) (pc' := 67) ok (dOf dX9_parse 36 rfl) rfl (by decide) ?_ ?_
        · exact J_fin (kx81 (s.1 + 1, s.2.1, h5))
        · refine J_aload_n (pc' := 68) ok (dOf dX9_parse 37 rfl) rfl rfl rfl ?_
          refine J_getR (ci := 9) (kf := 0) (C := RX9) (T := TX9) (N := 6) (pc' := 71) ok (dOf dX9_parse 38 rfl) rfl (by decide) rfl (by decide) win_9 wfl_X9_11 (fun a9 => ?_)
          refine J_aload_n (pc' := 72) ok (dOf dX9_parse 39 rfl) rfl rfl rfl ?_
          refine J_getI (ci := 9) (kf := 3) (C := RX9) (T := TX9) (N := 6) (pc' := 75) ok (dOf dX9_parse 40 rfl) rfl (by decide) rfl (by decide) win_9 wfl_X9_37 (fun x10 => ?_)
          refine J_bald (pc' := 76) ok (dOf dX9_parse 41 rfl) rfl (fun x11 => ?_)
          refine J_bipush (v := 59) (pc' := 78) ok (dOf dX9_parse 42 rfl) rfl (by decide) ?_
          refine J_icmp_eq (tgt := 91) (pc' := 81) ok (dOf dX9_parse 43 rfl) rfl (by decide) ?_ ?_
          · refine J_aload_n (pc' := 92) ok (dOf dX9_parse 50 rfl) rfl rfl rfl ?_
            refine J_callVv (k2 := kTape_step) (ci := 9) (T := TX9) (N := 6) (as := []) (pc' := 95) ok (dOf dX9_parse 51 rfl) rfl (cw_Tape_step (by decide) (by decide)) wml_X9_30 winst_X9_step wsel_X9_step rfl ⟨Nat.le_refl 0, Nat.le_refl 0⟩ (Nat.le_of_ble_eq_true rfl) rfl (fun _ _ hf => t_Tape_step hf) (fun _ h12 => ?_)
            refine J_iinc (v := s.2.1 + 1) (ls' := [some (.ref v0), some (.ref v1), some (.int (s.1 + 1)), some (.int (s.2.1 + 1))]) (pc' := 98) ok (dOf dX9_parse 52 rfl) rfl rfl (by rfl) (Nat.le_of_ble_eq_true rfl) rfl rfl ?_
            refine J_goto (tgt := 22) ok (dOf dX9_parse 53 rfl) (by decide) ?_
            exact J_fin (k1 (s.1 + 1, s.2.1 + 1, h12))
          · exact J_fin (kx81 (s.1 + 1, s.2.1, h5))
      · exact J_fin (kx57 (s.1 + 1, s.2.1, h5))
    · exact J_fin (kx37 (s.1, s.2.1, h5))
def Tape_parse_j37 (v0 : Nat) (v1 : Nat) (v2 : Int32) (v3 : Int32) (h : AHeap) : Option (Int32 × AHeap) :=
  (gfI h v0 9 3).bind fun x13 => (pfV h v0 9 2 (.int x13)).bind fun h14 => some ((-1), h14)
theorem Tape_parse_j37_J {E : JE} {l : Launch} {G : GX} {v : Int32} {h' : AHeap} (ok : JOK E l G kTape_parse 0 0 (some (.int v)) h') (v0 : Nat) (v1 : Nat) (v2 : Int32) (v3 : Int32) (h : AHeap) : J E kTape_parse (Tape_parse_j37 v0 v1 v2 v3 h) (fun z => z = (v, h')) 37 [some (.ref v0), some (.ref v1), some (.int v2), some (.int v3)] [] h 0 0 := by
  unfold Tape_parse_j37
  refine J_aload_n (pc' := 38) ok (dOf dX9_parse 21 rfl) rfl rfl rfl ?_
  refine J_aload_n (pc' := 39) ok (dOf dX9_parse 22 rfl) rfl rfl rfl ?_
  refine J_getI (ci := 9) (kf := 3) (C := RX9) (T := TX9) (N := 6) (pc' := 42) ok (dOf dX9_parse 23 rfl) rfl (by decide) rfl (by decide) win_9 wfl_X9_37 (fun x13 => ?_)
  refine J_putI (ci := 9) (kf := 2) (C := RX9) (T := TX9) (N := 6) (pc' := 45) ok tyX9 (dOf dX9_parse 24 rfl) rfl rfl (by decide) win_9 tyX9_ok nmX9 rfl rfl wfl_X9_15 (fun h14 _ => ?_)
  refine J_iconst (v := (-1)) (pc' := 46) ok (dOf dX9_parse 25 rfl) rfl (by decide) ?_
  exact J_ireturn ok (dOf dX9_parse 26 rfl) rfl (Eq.refl 0) (Nat.le_refl 0)
def Tape_parse_j57 (v0 : Nat) (v1 : Nat) (v2 : Int32) (v3 : Int32) (h : AHeap) : Option (Int32 × AHeap) :=
  some (v2, h)
theorem Tape_parse_j57_J {E : JE} {l : Launch} {G : GX} {v : Int32} {h' : AHeap} (ok : JOK E l G kTape_parse 0 0 (some (.int v)) h') (v0 : Nat) (v1 : Nat) (v2 : Int32) (v3 : Int32) (h : AHeap) : J E kTape_parse (Tape_parse_j57 v0 v1 v2 v3 h) (fun z => z = (v, h')) 57 [some (.ref v0), some (.ref v1), some (.int v2), some (.int v3)] [] h 0 0 := by
  unfold Tape_parse_j57
  refine J_iload_n (pc' := 58) ok (dOf dX9_parse 31 rfl) rfl rfl rfl ?_
  exact J_ireturn ok (dOf dX9_parse 32 rfl) rfl (Eq.refl 0) (Nat.le_refl 0)
def Tape_parse_j81 (v0 : Nat) (v1 : Nat) (v2 : Int32) (v3 : Int32) (h : AHeap) : Option (Int32 × AHeap) :=
  (gfI h v0 9 3).bind fun x15 => (pfV h v0 9 2 (.int x15)).bind fun h16 => some ((-1), h16)
theorem Tape_parse_j81_J {E : JE} {l : Launch} {G : GX} {v : Int32} {h' : AHeap} (ok : JOK E l G kTape_parse 0 0 (some (.int v)) h') (v0 : Nat) (v1 : Nat) (v2 : Int32) (v3 : Int32) (h : AHeap) : J E kTape_parse (Tape_parse_j81 v0 v1 v2 v3 h) (fun z => z = (v, h')) 81 [some (.ref v0), some (.ref v1), some (.int v2), some (.int v3)] [] h 0 0 := by
  unfold Tape_parse_j81
  refine J_aload_n (pc' := 82) ok (dOf dX9_parse 44 rfl) rfl rfl rfl ?_
  refine J_aload_n (pc' := 83) ok (dOf dX9_parse 45 rfl) rfl rfl rfl ?_
  refine J_getI (ci := 9) (kf := 3) (C := RX9) (T := TX9) (N := 6) (pc' := 86) ok (dOf dX9_parse 46 rfl) rfl (by decide) rfl (by decide) win_9 wfl_X9_37 (fun x15 => ?_)
  refine J_putI (ci := 9) (kf := 2) (C := RX9) (T := TX9) (N := 6) (pc' := 89) ok tyX9 (dOf dX9_parse 47 rfl) rfl rfl (by decide) win_9 tyX9_ok nmX9 rfl rfl wfl_X9_15 (fun h16 _ => ?_)
  refine J_iconst (v := (-1)) (pc' := 90) ok (dOf dX9_parse 48 rfl) rfl (by decide) ?_
  exact J_ireturn ok (dOf dX9_parse 49 rfl) rfl (Eq.refl 0) (Nat.le_refl 0)
def Tape_parse_j101 (v0 : Nat) (v1 : Nat) (v2 : Int32) (v3 : Int32) (h : AHeap) : Option (Int32 × AHeap) :=
  (gfI h v0 9 3).bind fun x17 => (pfV h v0 9 2 (.int x17)).bind fun h18 => some ((-1), h18)
theorem Tape_parse_j101_J {E : JE} {l : Launch} {G : GX} {v : Int32} {h' : AHeap} (ok : JOK E l G kTape_parse 0 0 (some (.int v)) h') (v0 : Nat) (v1 : Nat) (v2 : Int32) (v3 : Int32) (h : AHeap) : J E kTape_parse (Tape_parse_j101 v0 v1 v2 v3 h) (fun z => z = (v, h')) 101 [some (.ref v0), some (.ref v1), some (.int v2), some (.int v3)] [] h 0 0 := by
  unfold Tape_parse_j101
  refine J_aload_n (pc' := 102) ok (dOf dX9_parse 54 rfl) rfl rfl rfl ?_
  refine J_aload_n (pc' := 103) ok (dOf dX9_parse 55 rfl) rfl rfl rfl ?_
  refine J_getI (ci := 9) (kf := 3) (C := RX9) (T := TX9) (N := 6) (pc' := 106) ok (dOf dX9_parse 56 rfl) rfl (by decide) rfl (by decide) win_9 wfl_X9_37 (fun x17 => ?_)
  refine J_putI (ci := 9) (kf := 2) (C := RX9) (T := TX9) (N := 6) (pc' := 109) ok tyX9 (dOf dX9_parse 57 rfl) rfl rfl (by decide) win_9 tyX9_ok nmX9 rfl rfl wfl_X9_15 (fun h18 _ => ?_)
  refine J_iconst (v := (-1)) (pc' := 110) ok (dOf dX9_parse 58 rfl) rfl (by decide) ?_
  exact J_ireturn ok (dOf dX9_parse 59 rfl) rfl (Eq.refl 0) (Nat.le_refl 0)
def Tape_parse (v0 : Nat) (v1 : Nat) (h : AHeap) : Option (Int32 × AHeap) :=
  (chk h v1 6).bind fun _ => bnd2 (Prog_wipe v1 h) fun _ h1 => (pfV h1 v0 9 4 (.int 0)).bind fun h2 => (pfV h2 v0 9 2 (.int (-1))).bind fun h3 => (chk h3 v0 9).bind fun _ => bnd2 (Tape_step v0 h3) fun _ h4 => (iter (Tape_parse_b22 v0 v1) Lmax (0, 0, h4)).bind (Sum.elim (fun (q22 : Int32 × Int32 × AHeap) => Tape_parse_j37 v0 v1 q22.1 q22.2.1 q22.2.2) (Sum.elim (fun (q22 : Int32 × Int32 × AHeap) => Tape_parse_j57 v0 v1 q22.1 q22.2.1 q22.2.2) (Sum.elim (fun (q22 : Int32 × Int32 × AHeap) => Tape_parse_j81 v0 v1 q22.1 q22.2.1 q22.2.2) (fun (q22 : Int32 × Int32 × AHeap) => Tape_parse_j101 v0 v1 q22.1 q22.2.1 q22.2.2))))
theorem t_Tape_parse {l : Launch} {G : GX} {v0 : Nat} {v1 : Nat} {h : AHeap} {v : Int32} {h1 : AHeap} (hf : Tape_parse v0 v1 h = some (v, h1)) : CT l G kTape_parse 0 0 [.ref v0, .ref v1] h (some (.int v)) h1 := by
  refine CT_of (ls := [some (.ref v0), some (.ref v1), none, none]) (Z := fun z => z = (v, h1)) (by decide +kernel) (Nat.le_of_ble_eq_true rfl) hf rfl ⟨rfl, rfl, trivial⟩ (fun E ok => ?_)
  unfold Tape_parse
  refine J_aload_n (pc' := 1) ok (dOf dX9_parse 0 rfl) rfl rfl rfl ?_
  refine J_callVv (k2 := kProg_wipe) (ci := 6) (T := TX6) (N := 9) (as := []) (pc' := 4) ok (dOf dX9_parse 1 rfl) rfl (cw_Prog_wipe (by decide) (by decide)) wml_X9_22 winst_X6_wipe wsel_X6_wipe rfl ⟨Nat.le_refl 0, Nat.le_refl 0⟩ (Nat.le_of_ble_eq_true rfl) rfl (fun _ _ hf => t_Prog_wipe hf) (fun _ h1 => ?_)
  refine J_aload_n (pc' := 5) ok (dOf dX9_parse 2 rfl) rfl rfl rfl ?_
  refine J_iconst (v := 0) (pc' := 6) ok (dOf dX9_parse 3 rfl) rfl (by decide) ?_
  refine J_putI (ci := 9) (kf := 4) (C := RX9) (T := TX9) (N := 6) (pc' := 9) ok tyX9 (dOf dX9_parse 4 rfl) rfl rfl (by decide) win_9 tyX9_ok nmX9 rfl rfl wfl_X9_27 (fun h2 _ => ?_)
  refine J_aload_n (pc' := 10) ok (dOf dX9_parse 5 rfl) rfl rfl rfl ?_
  refine J_iconst (v := (-1)) (pc' := 11) ok (dOf dX9_parse 6 rfl) rfl (by decide) ?_
  refine J_putI (ci := 9) (kf := 2) (C := RX9) (T := TX9) (N := 6) (pc' := 14) ok tyX9 (dOf dX9_parse 7 rfl) rfl rfl (by decide) win_9 tyX9_ok nmX9 rfl rfl wfl_X9_15 (fun h3 _ => ?_)
  refine J_aload_n (pc' := 15) ok (dOf dX9_parse 8 rfl) rfl rfl rfl ?_
  refine J_callVv (k2 := kTape_step) (ci := 9) (T := TX9) (N := 6) (as := []) (pc' := 18) ok (dOf dX9_parse 9 rfl) rfl (cw_Tape_step (by decide) (by decide)) wml_X9_30 winst_X9_step wsel_X9_step rfl ⟨Nat.le_refl 0, Nat.le_refl 0⟩ (Nat.le_of_ble_eq_true rfl) rfl (fun _ _ hf => t_Tape_step hf) (fun _ h4 => ?_)
  refine J_iconst (v := 0) (pc' := 19) ok (dOf dX9_parse 10 rfl) rfl (by decide) ?_
  refine J_istore_n (ls' := [some (.ref v0), some (.ref v1), some (.int 0), none]) (pc' := 20) ok (dOf dX9_parse 11 rfl) rfl rfl (Nat.le_of_ble_eq_true rfl) rfl rfl ?_
  refine J_iconst (v := 0) (pc' := 21) ok (dOf dX9_parse 12 rfl) rfl (by decide) ?_
  refine J_istore_n (ls' := [some (.ref v0), some (.ref v1), some (.int 0), some (.int 0)]) (pc' := 22) ok (dOf dX9_parse 13 rfl) rfl rfl (Nat.le_of_ble_eq_true rfl) rfl rfl ?_
  refine J_iter (lf := fun z22 => [some (.ref v0), some (.ref v1), some (.int z22.1), some (.int z22.2.1)]) (sf := fun _ => []) (hf := fun z22 => z22.2.2) (px := (Sum.elim (fun (q22 : Int32 × Int32 × AHeap) => 37) (Sum.elim (fun (q22 : Int32 × Int32 × AHeap) => 57) (Sum.elim (fun (q22 : Int32 × Int32 × AHeap) => 81) (fun (q22 : Int32 × Int32 × AHeap) => 101))))) (lx := (Sum.elim (fun (q22 : Int32 × Int32 × AHeap) => [some (.ref v0), some (.ref v1), some (.int q22.1), some (.int q22.2.1)]) (Sum.elim (fun (q22 : Int32 × Int32 × AHeap) => [some (.ref v0), some (.ref v1), some (.int q22.1), some (.int q22.2.1)]) (Sum.elim (fun (q22 : Int32 × Int32 × AHeap) => [some (.ref v0), some (.ref v1), some (.int q22.1), some (.int q22.2.1)]) (fun (q22 : Int32 × Int32 × AHeap) => [some (.ref v0), some (.ref v1), some (.int q22.1), some (.int q22.2.1)]))))) (sx := (Sum.elim (fun (q22 : Int32 × Int32 × AHeap) => []) (Sum.elim (fun (q22 : Int32 × Int32 × AHeap) => []) (Sum.elim (fun (q22 : Int32 × Int32 × AHeap) => []) (fun (q22 : Int32 × Int32 × AHeap) => []))))) (hx := (Sum.elim (fun (q22 : Int32 × Int32 × AHeap) => q22.2.2) (Sum.elim (fun (q22 : Int32 × Int32 × AHeap) => q22.2.2) (Sum.elim (fun (q22 : Int32 × Int32 × AHeap) => q22.2.2) (fun (q22 : Int32 × Int32 × AHeap) => q22.2.2))))) (fun Y2 z22 m1 m2 => Tape_parse_b22_J ok v0 v1 m1 (fun q hq => m2 (Sum.inl q) hq) (fun q hq => m2 (Sum.inr (Sum.inl q)) hq) (fun q hq => m2 (Sum.inr (Sum.inr (Sum.inl q))) hq) (fun q hq => m2 (Sum.inr (Sum.inr (Sum.inr q))) hq) z22) (fun q22 => ?_) Lmax _
  rcases q22 with q22 | q22 | q22 | q22
  · show J E kTape_parse (Tape_parse_j37 v0 v1 q22.1 q22.2.1 q22.2.2) _ 37 [some (.ref v0), some (.ref v1), some (.int q22.1), some (.int q22.2.1)] [] q22.2.2 0 0
    exact Tape_parse_j37_J ok v0 v1 q22.1 q22.2.1 q22.2.2
  · show J E kTape_parse (Tape_parse_j57 v0 v1 q22.1 q22.2.1 q22.2.2) _ 57 [some (.ref v0), some (.ref v1), some (.int q22.1), some (.int q22.2.1)] [] q22.2.2 0 0
    exact Tape_parse_j57_J ok v0 v1 q22.1 q22.2.1 q22.2.2
  · show J E kTape_parse (Tape_parse_j81 v0 v1 q22.1 q22.2.1 q22.2.2) _ 81 [some (.ref v0), some (.ref v1), some (.int q22.1), some (.int q22.2.1)] [] q22.2.2 0 0
    exact Tape_parse_j81_J ok v0 v1 q22.1 q22.2.1 q22.2.2
  · show J E kTape_parse (Tape_parse_j101 v0 v1 q22.1 q22.2.1 q22.2.2) _ 101 [some (.ref v0), some (.ref v1), some (.int q22.1), some (.int q22.2.1)] [] q22.2.2 0 0
    exact Tape_parse_j101_J ok v0 v1 q22.1 q22.2.1 q22.2.2
-- X6_copyFrom
abbrev kProg_copyFrom : Cd := (yX6_copyFrom, cX6_copyFrom, 2, none, 1, 45)
theorem dX6_copyFrom : dcheck cX6_copyFrom [(0, .aload_n 0, 1), (1, .aload_n 1, 1), (2, .getfield 36, 3), (5, .putfield 36, 3), (8, .aload_n 0, 1), (9, .aload_n 1, 1), (10, .getfield 40, 3), (13, .putfield 40, 3), (16, .aload_n 0, 1), (17, .aload_n 1, 1), (18, .getfield 43, 3), (21, .putfield 43, 3), (24, .aload_n 1, 1), (25, .getfield 9, 3), (28, .iconst 0, 1), (29, .aload_n 0, 1), (30, .getfield 9, 3), (33, .iconst 0, 1), (34, .iconst 4, 1), (35, .invokestatic 46, 3), (38, .aload_n 1, 1), (39, .getfield 15, 3), (42, .iconst 0, 1), (43, .aload_n 0, 1), (44, .getfield 15, 3), (47, .iconst 0, 1), (48, .iconst 4, 1), (49, .invokestatic 46, 3), (52, .aload_n 1, 1), (53, .getfield 18, 3), (56, .iconst 0, 1), (57, .aload_n 0, 1), (58, .getfield 18, 3), (61, .iconst 0, 1), (62, .iconst 4, 1), (63, .invokestatic 46, 3), (66, .aload_n 1, 1), (67, .getfield 21, 3), (70, .iconst 0, 1), (71, .aload_n 0, 1), (72, .getfield 21, 3), (75, .iconst 0, 1), (76, .bipush 24, 2), (78, .invokestatic 46, 3), (81, .aload_n 1, 1), (82, .getfield 24, 3), (85, .iconst 0, 1), (86, .aload_n 0, 1), (87, .getfield 24, 3), (90, .iconst 0, 1), (91, .iconst 4, 1), (92, .invokestatic 46, 3), (95, .aload_n 1, 1), (96, .getfield 27, 3), (99, .iconst 0, 1), (100, .aload_n 0, 1), (101, .getfield 27, 3), (104, .iconst 0, 1), (105, .bipush 24, 2), (107, .invokestatic 46, 3), (110, .return_, 1)] = true := by decide +kernel
theorem cw_Prog_copyFrom {k : Cd} (h1 : kProg_copyFrom.2.2.2.2.1 + 1 ≤ k.2.2.2.2.1) (h2 : 8 + (kProg_copyFrom.2.2.1 + 11) + kProg_copyFrom.2.2.2.2.2 ≤ k.2.2.2.2.2) : Cw k kProg_copyFrom 1 := ⟨wcode_X6_copyFrom, wini_SplitProgram_Program, ⟨by decide, by decide, by decide +kernel⟩, h1, h2⟩
def Prog_copyFrom (v0 : Nat) (v1 : Nat) (h : AHeap) : Option (Unit × AHeap) :=
  (gfI h v1 6 0).bind fun x1 => (pfV h v0 6 0 (.int x1)).bind fun h2 => (gfI h2 v1 6 1).bind fun x3 => (pfV h2 v0 6 1 (.int x3)).bind fun h4 => (gfI h4 v1 6 2).bind fun x5 => (pfV h4 v0 6 2 (.int x5)).bind fun h6 => (gfR h6 v1 6 3).bind fun a7 => (gfR h6 v0 6 3).bind fun a8 => (acp h6 a7 0 a8 0 4).bind fun h9 => (gfR h9 v1 6 4).bind fun a10 => (gfR h9 v0 6 4).bind fun a11 => (acp h9 a10 0 a11 0 4).bind fun h12 => (gfR h12 v1 6 5).bind fun a13 => (gfR h12 v0 6 5).bind fun a14 => (acp h12 a13 0 a14 0 4).bind fun h15 => (gfR h15 v1 6 6).bind fun a16 => (gfR h15 v0 6 6).bind fun a17 => (acp h15 a16 0 a17 0 24).bind fun h18 => (gfR h18 v1 6 7).bind fun a19 => (gfR h18 v0 6 7).bind fun a20 => (acp h18 a19 0 a20 0 4).bind fun h21 => (gfR h21 v1 6 8).bind fun a22 => (gfR h21 v0 6 8).bind fun a23 => (acp h21 a22 0 a23 0 24).bind fun h24 => some ((), h24)
theorem t_Prog_copyFrom {l : Launch} {G : GX} {v0 : Nat} {v1 : Nat} {h : AHeap} {h1 : AHeap} (hf : Prog_copyFrom v0 v1 h = some ((), h1)) : CT l G kProg_copyFrom 0 0 [.ref v0, .ref v1] h none h1 := by
  refine CT_of (ls := [some (.ref v0), some (.ref v1)]) (Z := fun z => z = ((), h1)) (by decide +kernel) (Nat.le_of_ble_eq_true rfl) hf rfl ⟨rfl, rfl, trivial⟩ (fun E ok => ?_)
  unfold Prog_copyFrom
  refine J_aload_n (pc' := 1) ok (dOf dX6_copyFrom 0 rfl) rfl rfl rfl ?_
  refine J_aload_n (pc' := 2) ok (dOf dX6_copyFrom 1 rfl) rfl rfl rfl ?_
  refine J_getI (ci := 6) (kf := 0) (C := RX6) (T := TX6) (N := 9) (pc' := 5) ok (dOf dX6_copyFrom 2 rfl) rfl (by decide) rfl (by decide) win_6 wfl_X6_36 (fun x1 => ?_)
  refine J_putI (ci := 6) (kf := 0) (C := RX6) (T := TX6) (N := 9) (pc' := 8) ok tyX6 (dOf dX6_copyFrom 3 rfl) rfl rfl (by decide) win_6 tyX6_ok nmX6 rfl rfl wfl_X6_36 (fun h2 _ => ?_)
  refine J_aload_n (pc' := 9) ok (dOf dX6_copyFrom 4 rfl) rfl rfl rfl ?_
  refine J_aload_n (pc' := 10) ok (dOf dX6_copyFrom 5 rfl) rfl rfl rfl ?_
  refine J_getI (ci := 6) (kf := 1) (C := RX6) (T := TX6) (N := 9) (pc' := 13) ok (dOf dX6_copyFrom 6 rfl) rfl (by decide) rfl (by decide) win_6 wfl_X6_40 (fun x3 => ?_)
  refine J_putI (ci := 6) (kf := 1) (C := RX6) (T := TX6) (N := 9) (pc' := 16) ok tyX6 (dOf dX6_copyFrom 7 rfl) rfl rfl (by decide) win_6 tyX6_ok nmX6 rfl rfl wfl_X6_40 (fun h4 _ => ?_)
  refine J_aload_n (pc' := 17) ok (dOf dX6_copyFrom 8 rfl) rfl rfl rfl ?_
  refine J_aload_n (pc' := 18) ok (dOf dX6_copyFrom 9 rfl) rfl rfl rfl ?_
  refine J_getI (ci := 6) (kf := 2) (C := RX6) (T := TX6) (N := 9) (pc' := 21) ok (dOf dX6_copyFrom 10 rfl) rfl (by decide) rfl (by decide) win_6 wfl_X6_43 (fun x5 => ?_)
  refine J_putI (ci := 6) (kf := 2) (C := RX6) (T := TX6) (N := 9) (pc' := 24) ok tyX6 (dOf dX6_copyFrom 11 rfl) rfl rfl (by decide) win_6 tyX6_ok nmX6 rfl rfl wfl_X6_43 (fun h6 _ => ?_)
  refine J_aload_n (pc' := 25) ok (dOf dX6_copyFrom 12 rfl) rfl rfl rfl ?_
  refine J_getR (ci := 6) (kf := 3) (C := RX6) (T := TX6) (N := 9) (pc' := 28) ok (dOf dX6_copyFrom 13 rfl) rfl (by decide) rfl (by decide) win_6 wfl_X6_9 (fun a7 => ?_)
  refine J_iconst (v := 0) (pc' := 29) ok (dOf dX6_copyFrom 14 rfl) rfl (by decide) ?_
  refine J_aload_n (pc' := 30) ok (dOf dX6_copyFrom 15 rfl) rfl rfl rfl ?_
  refine J_getR (ci := 6) (kf := 3) (C := RX6) (T := TX6) (N := 9) (pc' := 33) ok (dOf dX6_copyFrom 16 rfl) rfl (by decide) rfl (by decide) win_6 wfl_X6_9 (fun a8 => ?_)
  refine J_iconst (v := 0) (pc' := 34) ok (dOf dX6_copyFrom 17 rfl) rfl (by decide) ?_
  refine J_iconst (v := 4) (pc' := 35) ok (dOf dX6_copyFrom 18 rfl) rfl (by decide) ?_
  refine J_acp (pc' := 38) ok (dOf dX6_copyFrom 19 rfl) rfl wml_X6_46 wnat_java_lang_System_arraycopy wstat_java_lang_System_arraycopy wini_java_lang_System (Nat.le_of_ble_eq_true rfl) (Nat.le_of_ble_eq_true rfl) (fun h9 _ => ?_)
  refine J_aload_n (pc' := 39) ok (dOf dX6_copyFrom 20 rfl) rfl rfl rfl ?_
  refine J_getR (ci := 6) (kf := 4) (C := RX6) (T := TX6) (N := 9) (pc' := 42) ok (dOf dX6_copyFrom 21 rfl) rfl (by decide) rfl (by decide) win_6 wfl_X6_15 (fun a10 => ?_)
  refine J_iconst (v := 0) (pc' := 43) ok (dOf dX6_copyFrom 22 rfl) rfl (by decide) ?_
  refine J_aload_n (pc' := 44) ok (dOf dX6_copyFrom 23 rfl) rfl rfl rfl ?_
  refine J_getR (ci := 6) (kf := 4) (C := RX6) (T := TX6) (N := 9) (pc' := 47) ok (dOf dX6_copyFrom 24 rfl) rfl (by decide) rfl (by decide) win_6 wfl_X6_15 (fun a11 => ?_)
  refine J_iconst (v := 0) (pc' := 48) ok (dOf dX6_copyFrom 25 rfl) rfl (by decide) ?_
  refine J_iconst (v := 4) (pc' := 49) ok (dOf dX6_copyFrom 26 rfl) rfl (by decide) ?_
  refine J_acp (pc' := 52) ok (dOf dX6_copyFrom 27 rfl) rfl wml_X6_46 wnat_java_lang_System_arraycopy wstat_java_lang_System_arraycopy wini_java_lang_System (Nat.le_of_ble_eq_true rfl) (Nat.le_of_ble_eq_true rfl) (fun h12 _ => ?_)
  refine J_aload_n (pc' := 53) ok (dOf dX6_copyFrom 28 rfl) rfl rfl rfl ?_
  refine J_getR (ci := 6) (kf := 5) (C := RX6) (T := TX6) (N := 9) (pc' := 56) ok (dOf dX6_copyFrom 29 rfl) rfl (by decide) rfl (by decide) win_6 wfl_X6_18 (fun a13 => ?_)
  refine J_iconst (v := 0) (pc' := 57) ok (dOf dX6_copyFrom 30 rfl) rfl (by decide) ?_
  refine J_aload_n (pc' := 58) ok (dOf dX6_copyFrom 31 rfl) rfl rfl rfl ?_
  refine J_getR (ci := 6) (kf := 5) (C := RX6) (T := TX6) (N := 9) (pc' := 61) ok (dOf dX6_copyFrom 32 rfl) rfl (by decide) rfl (by decide) win_6 wfl_X6_18 (fun a14 => ?_)
  refine J_iconst (v := 0) (pc' := 62) ok (dOf dX6_copyFrom 33 rfl) rfl (by decide) ?_
  refine J_iconst (v := 4) (pc' := 63) ok (dOf dX6_copyFrom 34 rfl) rfl (by decide) ?_
  refine J_acp (pc' := 66) ok (dOf dX6_copyFrom 35 rfl) rfl wml_X6_46 wnat_java_lang_System_arraycopy wstat_java_lang_System_arraycopy wini_java_lang_System (Nat.le_of_ble_eq_true rfl) (Nat.le_of_ble_eq_true rfl) (fun h15 _ => ?_)
  refine J_aload_n (pc' := 67) ok (dOf dX6_copyFrom 36 rfl) rfl rfl rfl ?_
  refine J_getR (ci := 6) (kf := 6) (C := RX6) (T := TX6) (N := 9) (pc' := 70) ok (dOf dX6_copyFrom 37 rfl) rfl (by decide) rfl (by decide) win_6 wfl_X6_21 (fun a16 => ?_)
  refine J_iconst (v := 0) (pc' := 71) ok (dOf dX6_copyFrom 38 rfl) rfl (by decide) ?_
  refine J_aload_n (pc' := 72) ok (dOf dX6_copyFrom 39 rfl) rfl rfl rfl ?_
  refine J_getR (ci := 6) (kf := 6) (C := RX6) (T := TX6) (N := 9) (pc' := 75) ok (dOf dX6_copyFrom 40 rfl) rfl (by decide) rfl (by decide) win_6 wfl_X6_21 (fun a17 => ?_)
  refine J_iconst (v := 0) (pc' := 76) ok (dOf dX6_copyFrom 41 rfl) rfl (by decide) ?_
  refine J_bipush (v := 24) (pc' := 78) ok (dOf dX6_copyFrom 42 rfl) rfl (by decide) ?_
  refine J_acp (pc' := 81) ok (dOf dX6_copyFrom 43 rfl) rfl wml_X6_46 wnat_java_lang_System_arraycopy wstat_java_lang_System_arraycopy wini_java_lang_System (Nat.le_of_ble_eq_true rfl) (Nat.le_of_ble_eq_true rfl) (fun h18 _ => ?_)
  refine J_aload_n (pc' := 82) ok (dOf dX6_copyFrom 44 rfl) rfl rfl rfl ?_
  refine J_getR (ci := 6) (kf := 7) (C := RX6) (T := TX6) (N := 9) (pc' := 85) ok (dOf dX6_copyFrom 45 rfl) rfl (by decide) rfl (by decide) win_6 wfl_X6_24 (fun a19 => ?_)
  refine J_iconst (v := 0) (pc' := 86) ok (dOf dX6_copyFrom 46 rfl) rfl (by decide) ?_
  refine J_aload_n (pc' := 87) ok (dOf dX6_copyFrom 47 rfl) rfl rfl rfl ?_
  refine J_getR (ci := 6) (kf := 7) (C := RX6) (T := TX6) (N := 9) (pc' := 90) ok (dOf dX6_copyFrom 48 rfl) rfl (by decide) rfl (by decide) win_6 wfl_X6_24 (fun a20 => ?_)
  refine J_iconst (v := 0) (pc' := 91) ok (dOf dX6_copyFrom 49 rfl) rfl (by decide) ?_
  refine J_iconst (v := 4) (pc' := 92) ok (dOf dX6_copyFrom 50 rfl) rfl (by decide) ?_
  refine J_acp (pc' := 95) ok (dOf dX6_copyFrom 51 rfl) rfl wml_X6_46 wnat_java_lang_System_arraycopy wstat_java_lang_System_arraycopy wini_java_lang_System (Nat.le_of_ble_eq_true rfl) (Nat.le_of_ble_eq_true rfl) (fun h21 _ => ?_)
  refine J_aload_n (pc' := 96) ok (dOf dX6_copyFrom 52 rfl) rfl rfl rfl ?_
  refine J_getR (ci := 6) (kf := 8) (C := RX6) (T := TX6) (N := 9) (pc' := 99) ok (dOf dX6_copyFrom 53 rfl) rfl (by decide) rfl (by decide) win_6 wfl_X6_27 (fun a22 => ?_)
  refine J_iconst (v := 0) (pc' := 100) ok (dOf dX6_copyFrom 54 rfl) rfl (by decide) ?_
  refine J_aload_n (pc' := 101) ok (dOf dX6_copyFrom 55 rfl) rfl rfl rfl ?_
  refine J_getR (ci := 6) (kf := 8) (C := RX6) (T := TX6) (N := 9) (pc' := 104) ok (dOf dX6_copyFrom 56 rfl) rfl (by decide) rfl (by decide) win_6 wfl_X6_27 (fun a23 => ?_)
  refine J_iconst (v := 0) (pc' := 105) ok (dOf dX6_copyFrom 57 rfl) rfl (by decide) ?_
  refine J_bipush (v := 24) (pc' := 107) ok (dOf dX6_copyFrom 58 rfl) rfl (by decide) ?_
  refine J_acp (pc' := 110) ok (dOf dX6_copyFrom 59 rfl) rfl wml_X6_46 wnat_java_lang_System_arraycopy wstat_java_lang_System_arraycopy wini_java_lang_System (Nat.le_of_ble_eq_true rfl) (Nat.le_of_ble_eq_true rfl) (fun h24 _ => ?_)
  exact J_vreturn ok (dOf dX6_copyFrom 60 rfl) rfl (Eq.refl 0) (Nat.le_refl 0)
-- X2_copyFrom
abbrev kCuts_copyFrom : Cd := (yX2_copyFrom, cX2_copyFrom, 2, none, 1, 45)
theorem dX2_copyFrom : dcheck cX2_copyFrom [(0, .aload_n 0, 1), (1, .aload_n 1, 1), (2, .getfield 31, 3), (5, .aload_n 0, 1), (6, .getfield 9, 3), (9, .invokestatic 34, 3), (12, .putfield 31, 3), (15, .aload_n 1, 1), (16, .getfield 15, 3), (19, .iconst 0, 1), (20, .aload_n 0, 1), (21, .getfield 15, 3), (24, .iconst 0, 1), (25, .aload_n 0, 1), (26, .getfield 31, 3), (29, .invokestatic 40, 3), (32, .aload_n 1, 1), (33, .getfield 19, 3), (36, .iconst 0, 1), (37, .aload_n 0, 1), (38, .getfield 19, 3), (41, .iconst 0, 1), (42, .aload_n 0, 1), (43, .getfield 31, 3), (46, .invokestatic 40, 3), (49, .aload_n 1, 1), (50, .getfield 22, 3), (53, .iconst 0, 1), (54, .aload_n 0, 1), (55, .getfield 22, 3), (58, .iconst 0, 1), (59, .aload_n 0, 1), (60, .getfield 31, 3), (63, .invokestatic 40, 3), (66, .aload_n 1, 1), (67, .getfield 25, 3), (70, .iconst 0, 1), (71, .aload_n 0, 1), (72, .getfield 25, 3), (75, .iconst 0, 1), (76, .aload_n 0, 1), (77, .getfield 31, 3), (80, .iconst 4, 1), (81, .imul, 1), (82, .invokestatic 40, 3), (85, .aload_n 1, 1), (86, .getfield 28, 3), (89, .iconst 0, 1), (90, .aload_n 0, 1), (91, .getfield 28, 3), (94, .iconst 0, 1), (95, .aload_n 0, 1), (96, .getfield 31, 3), (99, .bipush 6, 2), (101, .imul, 1), (102, .invokestatic 40, 3), (105, .return_, 1)] = true := by decide +kernel
theorem cw_Cuts_copyFrom {k : Cd} (h1 : kCuts_copyFrom.2.2.2.2.1 + 1 ≤ k.2.2.2.2.1) (h2 : 8 + (kCuts_copyFrom.2.2.1 + 11) + kCuts_copyFrom.2.2.2.2.2 ≤ k.2.2.2.2.2) : Cw k kCuts_copyFrom 1 := ⟨wcode_X2_copyFrom, wini_SplitProgram_Cuts, ⟨by decide, by decide, by decide +kernel⟩, h1, h2⟩
def Cuts_copyFrom (v0 : Nat) (v1 : Nat) (h : AHeap) : Option (Unit × AHeap) :=
  (gfI h v1 2 1).bind fun x1 => (gfI h v0 2 0).bind fun x2 => (pfV h v0 2 1 (.int (if x2 < x1 then x2 else x1))).bind fun h3 => (gfR h3 v1 2 2).bind fun a4 => (gfR h3 v0 2 2).bind fun a5 => (gfI h3 v0 2 1).bind fun x6 => (acp h3 a4 0 a5 0 x6).bind fun h7 => (gfR h7 v1 2 3).bind fun a8 => (gfR h7 v0 2 3).bind fun a9 => (gfI h7 v0 2 1).bind fun x10 => (acp h7 a8 0 a9 0 x10).bind fun h11 => (gfR h11 v1 2 4).bind fun a12 => (gfR h11 v0 2 4).bind fun a13 => (gfI h11 v0 2 1).bind fun x14 => (acp h11 a12 0 a13 0 x14).bind fun h15 => (gfR h15 v1 2 5).bind fun a16 => (gfR h15 v0 2 5).bind fun a17 => (gfI h15 v0 2 1).bind fun x18 => (acp h15 a16 0 a17 0 (x18 * 4)).bind fun h19 => (gfR h19 v1 2 6).bind fun a20 => (gfR h19 v0 2 6).bind fun a21 => (gfI h19 v0 2 1).bind fun x22 => (acp h19 a20 0 a21 0 (x22 * 6)).bind fun h23 => some ((), h23)
theorem t_Cuts_copyFrom {l : Launch} {G : GX} {v0 : Nat} {v1 : Nat} {h : AHeap} {h1 : AHeap} (hf : Cuts_copyFrom v0 v1 h = some ((), h1)) : CT l G kCuts_copyFrom 0 0 [.ref v0, .ref v1] h none h1 := by
  refine CT_of (ls := [some (.ref v0), some (.ref v1)]) (Z := fun z => z = ((), h1)) (by decide +kernel) (Nat.le_of_ble_eq_true rfl) hf rfl ⟨rfl, rfl, trivial⟩ (fun E ok => ?_)
  unfold Cuts_copyFrom
  refine J_aload_n (pc' := 1) ok (dOf dX2_copyFrom 0 rfl) rfl rfl rfl ?_
  refine J_aload_n (pc' := 2) ok (dOf dX2_copyFrom 1 rfl) rfl rfl rfl ?_
  refine J_getI (ci := 2) (kf := 1) (C := RX2) (T := TX2) (N := 7) (pc' := 5) ok (dOf dX2_copyFrom 2 rfl) rfl (by decide) rfl (by decide) win_2 wfl_X2_31 (fun x1 => ?_)
  refine J_aload_n (pc' := 6) ok (dOf dX2_copyFrom 3 rfl) rfl rfl rfl ?_
  refine J_getI (ci := 2) (kf := 0) (C := RX2) (T := TX2) (N := 7) (pc' := 9) ok (dOf dX2_copyFrom 4 rfl) rfl (by decide) rfl (by decide) win_2 wfl_X2_9 (fun x2 => ?_)
  refine J_mmin (pc' := 12) ok (dOf dX2_copyFrom 5 rfl) rfl wml_X2_34 wstat_J9_min_7cf53 wini_java_lang_Math wcode_J9_min_7cf53 (Nat.le_of_ble_eq_true rfl) (Nat.le_of_ble_eq_true rfl) (Nat.le_refl 0) (Nat.le_refl 0) ?_
  refine J_putI (ci := 2) (kf := 1) (C := RX2) (T := TX2) (N := 7) (pc' := 15) ok tyX2 (dOf dX2_copyFrom 6 rfl) rfl rfl (by decide) win_2 tyX2_ok nmX2 rfl rfl wfl_X2_31 (fun h3 _ => ?_)
  refine J_aload_n (pc' := 16) ok (dOf dX2_copyFrom 7 rfl) rfl rfl rfl ?_
  refine J_getR (ci := 2) (kf := 2) (C := RX2) (T := TX2) (N := 7) (pc' := 19) ok (dOf dX2_copyFrom 8 rfl) rfl (by decide) rfl (by decide) win_2 wfl_X2_15 (fun a4 => ?_)
  refine J_iconst (v := 0) (pc' := 20) ok (dOf dX2_copyFrom 9 rfl) rfl (by decide) ?_
  refine J_aload_n (pc' := 21) ok (dOf dX2_copyFrom 10 rfl) rfl rfl rfl ?_
  refine J_getR (ci := 2) (kf := 2) (C := RX2) (T := TX2) (N := 7) (pc' := 24) ok (dOf dX2_copyFrom 11 rfl) rfl (by decide) rfl (by decide) win_2 wfl_X2_15 (fun a5 => ?_)
  refine J_iconst (v := 0) (pc' := 25) ok (dOf dX2_copyFrom 12 rfl) rfl (by decide) ?_
  refine J_aload_n (pc' := 26) ok (dOf dX2_copyFrom 13 rfl) rfl rfl rfl ?_
  refine J_getI (ci := 2) (kf := 1) (C := RX2) (T := TX2) (N := 7) (pc' := 29) ok (dOf dX2_copyFrom 14 rfl) rfl (by decide) rfl (by decide) win_2 wfl_X2_31 (fun x6 => ?_)
  refine J_acp (pc' := 32) ok (dOf dX2_copyFrom 15 rfl) rfl wml_X2_40 wnat_java_lang_System_arraycopy wstat_java_lang_System_arraycopy wini_java_lang_System (Nat.le_of_ble_eq_true rfl) (Nat.le_of_ble_eq_true rfl) (fun h7 _ => ?_)
  refine J_aload_n (pc' := 33) ok (dOf dX2_copyFrom 16 rfl) rfl rfl rfl ?_
  refine J_getR (ci := 2) (kf := 3) (C := RX2) (T := TX2) (N := 7) (pc' := 36) ok (dOf dX2_copyFrom 17 rfl) rfl (by decide) rfl (by decide) win_2 wfl_X2_19 (fun a8 => ?_)
  refine J_iconst (v := 0) (pc' := 37) ok (dOf dX2_copyFrom 18 rfl) rfl (by decide) ?_
  refine J_aload_n (pc' := 38) ok (dOf dX2_copyFrom 19 rfl) rfl rfl rfl ?_
  refine J_getR (ci := 2) (kf := 3) (C := RX2) (T := TX2) (N := 7) (pc' := 41) ok (dOf dX2_copyFrom 20 rfl) rfl (by decide) rfl (by decide) win_2 wfl_X2_19 (fun a9 => ?_)
  refine J_iconst (v := 0) (pc' := 42) ok (dOf dX2_copyFrom 21 rfl) rfl (by decide) ?_
  refine J_aload_n (pc' := 43) ok (dOf dX2_copyFrom 22 rfl) rfl rfl rfl ?_
  refine J_getI (ci := 2) (kf := 1) (C := RX2) (T := TX2) (N := 7) (pc' := 46) ok (dOf dX2_copyFrom 23 rfl) rfl (by decide) rfl (by decide) win_2 wfl_X2_31 (fun x10 => ?_)
  refine J_acp (pc' := 49) ok (dOf dX2_copyFrom 24 rfl) rfl wml_X2_40 wnat_java_lang_System_arraycopy wstat_java_lang_System_arraycopy wini_java_lang_System (Nat.le_of_ble_eq_true rfl) (Nat.le_of_ble_eq_true rfl) (fun h11 _ => ?_)
  refine J_aload_n (pc' := 50) ok (dOf dX2_copyFrom 25 rfl) rfl rfl rfl ?_
  refine J_getR (ci := 2) (kf := 4) (C := RX2) (T := TX2) (N := 7) (pc' := 53) ok (dOf dX2_copyFrom 26 rfl) rfl (by decide) rfl (by decide) win_2 wfl_X2_22 (fun a12 => ?_)
  refine J_iconst (v := 0) (pc' := 54) ok (dOf dX2_copyFrom 27 rfl) rfl (by decide) ?_
  refine J_aload_n (pc' := 55) ok (dOf dX2_copyFrom 28 rfl) rfl rfl rfl ?_
  refine J_getR (ci := 2) (kf := 4) (C := RX2) (T := TX2) (N := 7) (pc' := 58) ok (dOf dX2_copyFrom 29 rfl) rfl (by decide) rfl (by decide) win_2 wfl_X2_22 (fun a13 => ?_)
  refine J_iconst (v := 0) (pc' := 59) ok (dOf dX2_copyFrom 30 rfl) rfl (by decide) ?_
  refine J_aload_n (pc' := 60) ok (dOf dX2_copyFrom 31 rfl) rfl rfl rfl ?_
  refine J_getI (ci := 2) (kf := 1) (C := RX2) (T := TX2) (N := 7) (pc' := 63) ok (dOf dX2_copyFrom 32 rfl) rfl (by decide) rfl (by decide) win_2 wfl_X2_31 (fun x14 => ?_)
  refine J_acp (pc' := 66) ok (dOf dX2_copyFrom 33 rfl) rfl wml_X2_40 wnat_java_lang_System_arraycopy wstat_java_lang_System_arraycopy wini_java_lang_System (Nat.le_of_ble_eq_true rfl) (Nat.le_of_ble_eq_true rfl) (fun h15 _ => ?_)
  refine J_aload_n (pc' := 67) ok (dOf dX2_copyFrom 34 rfl) rfl rfl rfl ?_
  refine J_getR (ci := 2) (kf := 5) (C := RX2) (T := TX2) (N := 7) (pc' := 70) ok (dOf dX2_copyFrom 35 rfl) rfl (by decide) rfl (by decide) win_2 wfl_X2_25 (fun a16 => ?_)
  refine J_iconst (v := 0) (pc' := 71) ok (dOf dX2_copyFrom 36 rfl) rfl (by decide) ?_
  refine J_aload_n (pc' := 72) ok (dOf dX2_copyFrom 37 rfl) rfl rfl rfl ?_
  refine J_getR (ci := 2) (kf := 5) (C := RX2) (T := TX2) (N := 7) (pc' := 75) ok (dOf dX2_copyFrom 38 rfl) rfl (by decide) rfl (by decide) win_2 wfl_X2_25 (fun a17 => ?_)
  refine J_iconst (v := 0) (pc' := 76) ok (dOf dX2_copyFrom 39 rfl) rfl (by decide) ?_
  refine J_aload_n (pc' := 77) ok (dOf dX2_copyFrom 40 rfl) rfl rfl rfl ?_
  refine J_getI (ci := 2) (kf := 1) (C := RX2) (T := TX2) (N := 7) (pc' := 80) ok (dOf dX2_copyFrom 41 rfl) rfl (by decide) rfl (by decide) win_2 wfl_X2_31 (fun x18 => ?_)
  refine J_iconst (v := 4) (pc' := 81) ok (dOf dX2_copyFrom 42 rfl) rfl (by decide) ?_
  refine J_imul (pc' := 82) ok (dOf dX2_copyFrom 43 rfl) rfl ?_
  refine J_acp (pc' := 85) ok (dOf dX2_copyFrom 44 rfl) rfl wml_X2_40 wnat_java_lang_System_arraycopy wstat_java_lang_System_arraycopy wini_java_lang_System (Nat.le_of_ble_eq_true rfl) (Nat.le_of_ble_eq_true rfl) (fun h19 _ => ?_)
  refine J_aload_n (pc' := 86) ok (dOf dX2_copyFrom 45 rfl) rfl rfl rfl ?_
  refine J_getR (ci := 2) (kf := 6) (C := RX2) (T := TX2) (N := 7) (pc' := 89) ok (dOf dX2_copyFrom 46 rfl) rfl (by decide) rfl (by decide) win_2 wfl_X2_28 (fun a20 => ?_)
  refine J_iconst (v := 0) (pc' := 90) ok (dOf dX2_copyFrom 47 rfl) rfl (by decide) ?_
  refine J_aload_n (pc' := 91) ok (dOf dX2_copyFrom 48 rfl) rfl rfl rfl ?_
  refine J_getR (ci := 2) (kf := 6) (C := RX2) (T := TX2) (N := 7) (pc' := 94) ok (dOf dX2_copyFrom 49 rfl) rfl (by decide) rfl (by decide) win_2 wfl_X2_28 (fun a21 => ?_)
  refine J_iconst (v := 0) (pc' := 95) ok (dOf dX2_copyFrom 50 rfl) rfl (by decide) ?_
  refine J_aload_n (pc' := 96) ok (dOf dX2_copyFrom 51 rfl) rfl rfl rfl ?_
  refine J_getI (ci := 2) (kf := 1) (C := RX2) (T := TX2) (N := 7) (pc' := 99) ok (dOf dX2_copyFrom 52 rfl) rfl (by decide) rfl (by decide) win_2 wfl_X2_31 (fun x22 => ?_)
  refine J_bipush (v := 6) (pc' := 101) ok (dOf dX2_copyFrom 53 rfl) rfl (by decide) ?_
  refine J_imul (pc' := 102) ok (dOf dX2_copyFrom 54 rfl) rfl ?_
  refine J_acp (pc' := 105) ok (dOf dX2_copyFrom 55 rfl) rfl wml_X2_40 wnat_java_lang_System_arraycopy wstat_java_lang_System_arraycopy wini_java_lang_System (Nat.le_of_ble_eq_true rfl) (Nat.le_of_ble_eq_true rfl) (fun h23 _ => ?_)
  exact J_vreturn ok (dOf dX2_copyFrom 56 rfl) rfl (Eq.refl 0) (Nat.le_refl 0)
-- X7_copyFrom
abbrev kSrch_copyFrom : Cd := (yX7_copyFrom, cX7_copyFrom, 2, none, 0, 0)
theorem dX7_copyFrom : dcheck cX7_copyFrom [(0, .aload_n 0, 1), (1, .aload_n 1, 1), (2, .getfield 24, 3), (5, .putfield 24, 3), (8, .aload_n 0, 1), (9, .aload_n 1, 1), (10, .getfield 9, 3), (13, .putfield 9, 3), (16, .aload_n 0, 1), (17, .aload_n 1, 1), (18, .getfield 15, 3), (21, .putfield 15, 3), (24, .aload_n 0, 1), (25, .aload_n 1, 1), (26, .getfield 18, 3), (29, .putfield 18, 3), (32, .aload_n 0, 1), (33, .aload_n 1, 1), (34, .getfield 21, 3), (37, .putfield 21, 3), (40, .aload_n 0, 1), (41, .aload_n 1, 1), (42, .getfield 27, 3), (45, .putfield 27, 3), (48, .aload_n 0, 1), (49, .aload_n 1, 1), (50, .getfield 30, 3), (53, .putfield 30, 3), (56, .return_, 1)] = true := by decide +kernel
theorem cw_Srch_copyFrom {k : Cd} (h1 : kSrch_copyFrom.2.2.2.2.1 + 1 ≤ k.2.2.2.2.1) (h2 : 8 + (kSrch_copyFrom.2.2.1 + 11) + kSrch_copyFrom.2.2.2.2.2 ≤ k.2.2.2.2.2) : Cw k kSrch_copyFrom 1 := ⟨wcode_X7_copyFrom, wini_SplitProgram_Search, ⟨by decide, by decide, by decide +kernel⟩, h1, h2⟩
def Srch_copyFrom (v0 : Nat) (v1 : Nat) (h : AHeap) : Option (Unit × AHeap) :=
  (gfI h v1 7 0).bind fun x1 => (pfV h v0 7 0 (.int x1)).bind fun h2 => (gfI h2 v1 7 1).bind fun x3 => (pfV h2 v0 7 1 (.int x3)).bind fun h4 => (gfI h4 v1 7 2).bind fun x5 => (pfV h4 v0 7 2 (.int x5)).bind fun h6 => (gfI h6 v1 7 3).bind fun x7 => (pfV h6 v0 7 3 (.int x7)).bind fun h8 => (gfI h8 v1 7 4).bind fun x9 => (pfV h8 v0 7 4 (.int x9)).bind fun h10 => (gfI h10 v1 7 5).bind fun x11 => (pfV h10 v0 7 5 (.int x11)).bind fun h12 => (gfI h12 v1 7 6).bind fun x13 => (pfV h12 v0 7 6 (.int x13)).bind fun h14 => some ((), h14)
theorem t_Srch_copyFrom {l : Launch} {G : GX} {v0 : Nat} {v1 : Nat} {h : AHeap} {h1 : AHeap} (hf : Srch_copyFrom v0 v1 h = some ((), h1)) : CT l G kSrch_copyFrom 0 0 [.ref v0, .ref v1] h none h1 := by
  refine CT_of (ls := [some (.ref v0), some (.ref v1)]) (Z := fun z => z = ((), h1)) (by decide +kernel) (Nat.le_of_ble_eq_true rfl) hf rfl ⟨rfl, rfl, trivial⟩ (fun E ok => ?_)
  unfold Srch_copyFrom
  refine J_aload_n (pc' := 1) ok (dOf dX7_copyFrom 0 rfl) rfl rfl rfl ?_
  refine J_aload_n (pc' := 2) ok (dOf dX7_copyFrom 1 rfl) rfl rfl rfl ?_
  refine J_getI (ci := 7) (kf := 0) (C := RX7) (T := TX7) (N := 7) (pc' := 5) ok (dOf dX7_copyFrom 2 rfl) rfl (by decide) rfl (by decide) win_7 wfl_X7_24 (fun x1 => ?_)
  refine J_putI (ci := 7) (kf := 0) (C := RX7) (T := TX7) (N := 7) (pc' := 8) ok tyX7 (dOf dX7_copyFrom 3 rfl) rfl rfl (by decide) win_7 tyX7_ok nmX7 rfl rfl wfl_X7_24 (fun h2 _ => ?_)
  refine J_aload_n (pc' := 9) ok (dOf dX7_copyFrom 4 rfl) rfl rfl rfl ?_
  refine J_aload_n (pc' := 10) ok (dOf dX7_copyFrom 5 rfl) rfl rfl rfl ?_
  refine J_getI (ci := 7) (kf := 1) (C := RX7) (T := TX7) (N := 7) (pc' := 13) ok (dOf dX7_copyFrom 6 rfl) rfl (by decide) rfl (by decide) win_7 wfl_X7_9 (fun x3 => ?_)
  refine J_putI (ci := 7) (kf := 1) (C := RX7) (T := TX7) (N := 7) (pc' := 16) ok tyX7 (dOf dX7_copyFrom 7 rfl) rfl rfl (by decide) win_7 tyX7_ok nmX7 rfl rfl wfl_X7_9 (fun h4 _ => ?_)
  refine J_aload_n (pc' := 17) ok (dOf dX7_copyFrom 8 rfl) rfl rfl rfl ?_
  refine J_aload_n (pc' := 18) ok (dOf dX7_copyFrom 9 rfl) rfl rfl rfl ?_
  refine J_getI (ci := 7) (kf := 2) (C := RX7) (T := TX7) (N := 7) (pc' := 21) ok (dOf dX7_copyFrom 10 rfl) rfl (by decide) rfl (by decide) win_7 wfl_X7_15 (fun x5 => ?_)
  refine J_putI (ci := 7) (kf := 2) (C := RX7) (T := TX7) (N := 7) (pc' := 24) ok tyX7 (dOf dX7_copyFrom 11 rfl) rfl rfl (by decide) win_7 tyX7_ok nmX7 rfl rfl wfl_X7_15 (fun h6 _ => ?_)
  refine J_aload_n (pc' := 25) ok (dOf dX7_copyFrom 12 rfl) rfl rfl rfl ?_
  refine J_aload_n (pc' := 26) ok (dOf dX7_copyFrom 13 rfl) rfl rfl rfl ?_
  refine J_getI (ci := 7) (kf := 3) (C := RX7) (T := TX7) (N := 7) (pc' := 29) ok (dOf dX7_copyFrom 14 rfl) rfl (by decide) rfl (by decide) win_7 wfl_X7_18 (fun x7 => ?_)
  refine J_putI (ci := 7) (kf := 3) (C := RX7) (T := TX7) (N := 7) (pc' := 32) ok tyX7 (dOf dX7_copyFrom 15 rfl) rfl rfl (by decide) win_7 tyX7_ok nmX7 rfl rfl wfl_X7_18 (fun h8 _ => ?_)
  refine J_aload_n (pc' := 33) ok (dOf dX7_copyFrom 16 rfl) rfl rfl rfl ?_
  refine J_aload_n (pc' := 34) ok (dOf dX7_copyFrom 17 rfl) rfl rfl rfl ?_
  refine J_getI (ci := 7) (kf := 4) (C := RX7) (T := TX7) (N := 7) (pc' := 37) ok (dOf dX7_copyFrom 18 rfl) rfl (by decide) rfl (by decide) win_7 wfl_X7_21 (fun x9 => ?_)
  refine J_putI (ci := 7) (kf := 4) (C := RX7) (T := TX7) (N := 7) (pc' := 40) ok tyX7 (dOf dX7_copyFrom 19 rfl) rfl rfl (by decide) win_7 tyX7_ok nmX7 rfl rfl wfl_X7_21 (fun h10 _ => ?_)
  refine J_aload_n (pc' := 41) ok (dOf dX7_copyFrom 20 rfl) rfl rfl rfl ?_
  refine J_aload_n (pc' := 42) ok (dOf dX7_copyFrom 21 rfl) rfl rfl rfl ?_
  refine J_getI (ci := 7) (kf := 5) (C := RX7) (T := TX7) (N := 7) (pc' := 45) ok (dOf dX7_copyFrom 22 rfl) rfl (by decide) rfl (by decide) win_7 wfl_X7_27 (fun x11 => ?_)
  refine J_putI (ci := 7) (kf := 5) (C := RX7) (T := TX7) (N := 7) (pc' := 48) ok tyX7 (dOf dX7_copyFrom 23 rfl) rfl rfl (by decide) win_7 tyX7_ok nmX7 rfl rfl wfl_X7_27 (fun h12 _ => ?_)
  refine J_aload_n (pc' := 49) ok (dOf dX7_copyFrom 24 rfl) rfl rfl rfl ?_
  refine J_aload_n (pc' := 50) ok (dOf dX7_copyFrom 25 rfl) rfl rfl rfl ?_
  refine J_getI (ci := 7) (kf := 6) (C := RX7) (T := TX7) (N := 7) (pc' := 53) ok (dOf dX7_copyFrom 26 rfl) rfl (by decide) rfl (by decide) win_7 wfl_X7_30 (fun x13 => ?_)
  refine J_putI (ci := 7) (kf := 6) (C := RX7) (T := TX7) (N := 7) (pc' := 56) ok tyX7 (dOf dX7_copyFrom 27 rfl) rfl rfl (by decide) win_7 tyX7_ok nmX7 rfl rfl wfl_X7_30 (fun h14 _ => ?_)
  exact J_vreturn ok (dOf dX7_copyFrom 28 rfl) rfl (Eq.refl 0) (Nat.le_refl 0)
-- X8_copyFrom
abbrev kStat_copyFrom : Cd := (yX8_copyFrom, cX8_copyFrom, 2, none, 2, 66)
theorem dX8_copyFrom : dcheck cX8_copyFrom [(0, .aload_n 0, 1), (1, .getfield 12, 3), (4, .aload_n 1, 1), (5, .getfield 12, 3), (8, .invokevirtual 34, 3), (11, .aload_n 0, 1), (12, .getfield 23, 3), (15, .aload_n 1, 1), (16, .getfield 23, 3), (19, .invokevirtual 38, 3), (22, .aload_n 0, 1), (23, .getfield 30, 3), (26, .aload_n 1, 1), (27, .getfield 30, 3), (30, .invokevirtual 41, 3), (33, .return_, 1)] = true := by decide +kernel
theorem cw_Stat_copyFrom {k : Cd} (h1 : kStat_copyFrom.2.2.2.2.1 + 1 ≤ k.2.2.2.2.1) (h2 : 8 + (kStat_copyFrom.2.2.1 + 11) + kStat_copyFrom.2.2.2.2.2 ≤ k.2.2.2.2.2) : Cw k kStat_copyFrom 1 := ⟨wcode_X8_copyFrom, wini_SplitProgram_State, ⟨by decide, by decide, by decide +kernel⟩, h1, h2⟩
def Stat_copyFrom (v0 : Nat) (v1 : Nat) (h : AHeap) : Option (Unit × AHeap) :=
  (gfR h v0 8 0).bind fun a1 => (gfR h v1 8 0).bind fun a2 => (chk h a1 6).bind fun _ => bnd2 (Prog_copyFrom a1 a2 h) fun _ h3 => (gfR h3 v0 8 1).bind fun a4 => (gfR h3 v1 8 1).bind fun a5 => (chk h3 a4 2).bind fun _ => bnd2 (Cuts_copyFrom a4 a5 h3) fun _ h6 => (gfR h6 v0 8 2).bind fun a7 => (gfR h6 v1 8 2).bind fun a8 => (chk h6 a7 7).bind fun _ => bnd2 (Srch_copyFrom a7 a8 h6) fun _ h9 => some ((), h9)
theorem t_Stat_copyFrom {l : Launch} {G : GX} {v0 : Nat} {v1 : Nat} {h : AHeap} {h1 : AHeap} (hf : Stat_copyFrom v0 v1 h = some ((), h1)) : CT l G kStat_copyFrom 0 0 [.ref v0, .ref v1] h none h1 := by
  refine CT_of (ls := [some (.ref v0), some (.ref v1)]) (Z := fun z => z = ((), h1)) (by decide +kernel) (Nat.le_of_ble_eq_true rfl) hf rfl ⟨rfl, rfl, trivial⟩ (fun E ok => ?_)
  unfold Stat_copyFrom
  refine J_aload_n (pc' := 1) ok (dOf dX8_copyFrom 0 rfl) rfl rfl rfl ?_
  refine J_getR (ci := 8) (kf := 0) (C := RX8) (T := TX8) (N := 3) (pc' := 4) ok (dOf dX8_copyFrom 1 rfl) rfl (by decide) rfl (by decide) win_8 wfl_X8_12 (fun a1 => ?_)
  refine J_aload_n (pc' := 5) ok (dOf dX8_copyFrom 2 rfl) rfl rfl rfl ?_
  refine J_getR (ci := 8) (kf := 0) (C := RX8) (T := TX8) (N := 3) (pc' := 8) ok (dOf dX8_copyFrom 3 rfl) rfl (by decide) rfl (by decide) win_8 wfl_X8_12 (fun a2 => ?_)
  refine J_callVv (k2 := kProg_copyFrom) (ci := 6) (T := TX6) (N := 9) (as := [.ref a2]) (pc' := 11) ok (dOf dX8_copyFrom 4 rfl) rfl (cw_Prog_copyFrom (by decide) (by decide)) wml_X8_34 winst_X6_copyFrom wsel_X6_copyFrom rfl ⟨Nat.le_refl 0, Nat.le_refl 0⟩ (Nat.le_of_ble_eq_true rfl) rfl (fun _ _ hf => t_Prog_copyFrom hf) (fun _ h3 => ?_)
  refine J_aload_n (pc' := 12) ok (dOf dX8_copyFrom 5 rfl) rfl rfl rfl ?_
  refine J_getR (ci := 8) (kf := 1) (C := RX8) (T := TX8) (N := 3) (pc' := 15) ok (dOf dX8_copyFrom 6 rfl) rfl (by decide) rfl (by decide) win_8 wfl_X8_23 (fun a4 => ?_)
  refine J_aload_n (pc' := 16) ok (dOf dX8_copyFrom 7 rfl) rfl rfl rfl ?_
  refine J_getR (ci := 8) (kf := 1) (C := RX8) (T := TX8) (N := 3) (pc' := 19) ok (dOf dX8_copyFrom 8 rfl) rfl (by decide) rfl (by decide) win_8 wfl_X8_23 (fun a5 => ?_)
  refine J_callVv (k2 := kCuts_copyFrom) (ci := 2) (T := TX2) (N := 7) (as := [.ref a5]) (pc' := 22) ok (dOf dX8_copyFrom 9 rfl) rfl (cw_Cuts_copyFrom (by decide) (by decide)) wml_X8_38 winst_X2_copyFrom wsel_X2_copyFrom rfl ⟨Nat.le_refl 0, Nat.le_refl 0⟩ (Nat.le_of_ble_eq_true rfl) rfl (fun _ _ hf => t_Cuts_copyFrom hf) (fun _ h6 => ?_)
  refine J_aload_n (pc' := 23) ok (dOf dX8_copyFrom 10 rfl) rfl rfl rfl ?_
  refine J_getR (ci := 8) (kf := 2) (C := RX8) (T := TX8) (N := 3) (pc' := 26) ok (dOf dX8_copyFrom 11 rfl) rfl (by decide) rfl (by decide) win_8 wfl_X8_30 (fun a7 => ?_)
  refine J_aload_n (pc' := 27) ok (dOf dX8_copyFrom 12 rfl) rfl rfl rfl ?_
  refine J_getR (ci := 8) (kf := 2) (C := RX8) (T := TX8) (N := 3) (pc' := 30) ok (dOf dX8_copyFrom 13 rfl) rfl (by decide) rfl (by decide) win_8 wfl_X8_30 (fun a8 => ?_)
  refine J_callVv (k2 := kSrch_copyFrom) (ci := 7) (T := TX7) (N := 7) (as := [.ref a8]) (pc' := 33) ok (dOf dX8_copyFrom 14 rfl) rfl (cw_Srch_copyFrom (by decide) (by decide)) wml_X8_41 winst_X7_copyFrom wsel_X7_copyFrom rfl ⟨Nat.le_refl 0, Nat.le_refl 0⟩ (Nat.le_of_ble_eq_true rfl) rfl (fun _ _ hf => t_Srch_copyFrom hf) (fun _ h9 => ?_)
  exact J_vreturn ok (dOf dX8_copyFrom 15 rfl) rfl (Eq.refl 0) (Nat.le_refl 0)
-- X5_keep
abbrev kHist_keep : Cd := (yX5_keep, cX5_keep, 3, none, 3, 87)
theorem dX5_keep : dcheck cX5_keep [(0, .aload_n 0, 1), (1, .getfield 11, 3), (4, .aload_n 0, 1), (5, .getfield 22, 3), (8, .aaload, 1), (9, .aload_n 1, 1), (10, .invokevirtual 26, 3), (13, .aload_n 0, 1), (14, .getfield 17, 3), (17, .aload_n 0, 1), (18, .getfield 22, 3), (21, .iload_n 2, 1), (22, .iastore, 1), (23, .aload_n 0, 1), (24, .aload_n 0, 1), (25, .getfield 22, 3), (28, .iconst 1, 1), (29, .iadd, 1), (30, .bipush 12, 2), (32, .if_icmp .ge 12, 3), (35, .aload_n 0, 1), (36, .getfield 22, 3), (39, .iconst 1, 1), (40, .iadd, 1), (41, .goto 4, 3), (44, .iconst 0, 1), (45, .putfield 22, 3), (48, .aload_n 0, 1), (49, .aload_n 0, 1), (50, .getfield 30, 3), (53, .iconst 1, 1), (54, .iadd, 1), (55, .bipush 12, 2), (57, .invokestatic 33, 3), (60, .putfield 30, 3), (63, .return_, 1)] = true := by decide +kernel
theorem cw_Hist_keep {k : Cd} (h1 : kHist_keep.2.2.2.2.1 + 1 ≤ k.2.2.2.2.1) (h2 : 8 + (kHist_keep.2.2.1 + 11) + kHist_keep.2.2.2.2.2 ≤ k.2.2.2.2.2) : Cw k kHist_keep 2 := ⟨wcode_X5_keep, wini_SplitProgram_History, ⟨by decide, by decide, by decide +kernel⟩, h1, h2⟩
def Hist_keep_j45 (v0 : Nat) (v1 : Nat) (v2 : Int32) (t0 : Nat) (t1 : Int32) (h : AHeap) : Option (Unit × AHeap) :=
  (pfV h t0 5 3 (.int t1)).bind fun h9 => (gfI h9 v0 5 2).bind fun x10 => (pfV h9 v0 5 2 (.int (if 12 < (x10 + 1) then 12 else (x10 + 1)))).bind fun h11 => some ((), h11)
theorem Hist_keep_j45_J {E : JE} {l : Launch} {G : GX} {h' : AHeap} (ok : JOK E l G kHist_keep 0 0 none h') (v0 : Nat) (v1 : Nat) (v2 : Int32) (t0 : Nat) (t1 : Int32) (h : AHeap) : J E kHist_keep (Hist_keep_j45 v0 v1 v2 t0 t1 h) (fun z => z = ((), h')) 45 [some (.ref v0), some (.ref v1), some (.int v2)] [.int t1, .ref t0] h 0 0 := by
  unfold Hist_keep_j45
  refine J_putI (ci := 5) (kf := 3) (C := RX5) (T := TX5) (N := 4) (pc' := 48) ok tyX5 (dOf dX5_keep 26 rfl) rfl rfl (by decide) win_5 tyX5_ok nmX5 rfl rfl wfl_X5_22 (fun h9 _ => ?_)
  refine J_aload_n (pc' := 49) ok (dOf dX5_keep 27 rfl) rfl rfl rfl ?_
  refine J_aload_n (pc' := 50) ok (dOf dX5_keep 28 rfl) rfl rfl rfl ?_
  refine J_getI (ci := 5) (kf := 2) (C := RX5) (T := TX5) (N := 4) (pc' := 53) ok (dOf dX5_keep 29 rfl) rfl (by decide) rfl (by decide) win_5 wfl_X5_30 (fun x10 => ?_)
  refine J_iconst (v := 1) (pc' := 54) ok (dOf dX5_keep 30 rfl) rfl (by decide) ?_
  refine J_iadd (pc' := 55) ok (dOf dX5_keep 31 rfl) rfl ?_
  refine J_bipush (v := 12) (pc' := 57) ok (dOf dX5_keep 32 rfl) rfl (by decide) ?_
  refine J_mmin (pc' := 60) ok (dOf dX5_keep 33 rfl) rfl wml_X5_33 wstat_J9_min_7cf53 wini_java_lang_Math wcode_J9_min_7cf53 (Nat.le_of_ble_eq_true rfl) (Nat.le_of_ble_eq_true rfl) (Nat.le_refl 0) (Nat.le_refl 0) ?_
  refine J_putI (ci := 5) (kf := 2) (C := RX5) (T := TX5) (N := 4) (pc' := 63) ok tyX5 (dOf dX5_keep 34 rfl) rfl rfl (by decide) win_5 tyX5_ok nmX5 rfl rfl wfl_X5_30 (fun h11 _ => ?_)
  exact J_vreturn ok (dOf dX5_keep 35 rfl) rfl (Eq.refl 0) (Nat.le_refl 0)
def Hist_keep (v0 : Nat) (v1 : Nat) (v2 : Int32) (h : AHeap) : Option (Unit × AHeap) :=
  (gfR h v0 5 0).bind fun a1 => (gfI h v0 5 3).bind fun x2 => (aldR h a1 x2).bind fun a3 => (chk h a3 8).bind fun _ => bnd2 (Stat_copyFrom a3 v1 h) fun _ h4 => (gfR h4 v0 5 1).bind fun a5 => (gfI h4 v0 5 3).bind fun x6 => (ast 0 h4 a5 x6 v2).bind fun h7 => (gfI h7 v0 5 3).bind fun x8 => (if 12 ≤ (x8 + 1) then Hist_keep_j45 v0 v1 v2 v0 0 h7 else (gfI h7 v0 5 3).bind fun x12 => Hist_keep_j45 v0 v1 v2 v0 (x12 + 1) h7)
theorem t_Hist_keep {l : Launch} {G : GX} {v0 : Nat} {v1 : Nat} {v2 : Int32} {h : AHeap} {h1 : AHeap} (hf : Hist_keep v0 v1 v2 h = some ((), h1)) : CT l G kHist_keep 0 0 [.ref v0, .ref v1, .int v2] h none h1 := by
  refine CT_of (ls := [some (.ref v0), some (.ref v1), some (.int v2)]) (Z := fun z => z = ((), h1)) (by decide +kernel) (Nat.le_of_ble_eq_true rfl) hf rfl ⟨rfl, rfl, rfl, trivial⟩ (fun E ok => ?_)
  unfold Hist_keep
  refine J_aload_n (pc' := 1) ok (dOf dX5_keep 0 rfl) rfl rfl rfl ?_
  refine J_getR (ci := 5) (kf := 0) (C := RX5) (T := TX5) (N := 4) (pc' := 4) ok (dOf dX5_keep 1 rfl) rfl (by decide) rfl (by decide) win_5 wfl_X5_11 (fun a1 => ?_)
  refine J_aload_n (pc' := 5) ok (dOf dX5_keep 2 rfl) rfl rfl rfl ?_
  refine J_getI (ci := 5) (kf := 3) (C := RX5) (T := TX5) (N := 4) (pc' := 8) ok (dOf dX5_keep 3 rfl) rfl (by decide) rfl (by decide) win_5 wfl_X5_22 (fun x2 => ?_)
  refine J_aldR (pc' := 9) ok (dOf dX5_keep 4 rfl) rfl (fun a3 => ?_)
  refine J_aload_n (pc' := 10) ok (dOf dX5_keep 5 rfl) rfl rfl rfl ?_
  refine J_callVv (k2 := kStat_copyFrom) (ci := 8) (T := TX8) (N := 3) (as := [.ref v1]) (pc' := 13) ok (dOf dX5_keep 6 rfl) rfl (cw_Stat_copyFrom (by decide) (by decide)) wml_X5_26 winst_X8_copyFrom wsel_X8_copyFrom rfl ⟨Nat.le_refl 0, Nat.le_refl 0⟩ (Nat.le_of_ble_eq_true rfl) rfl (fun _ _ hf => t_Stat_copyFrom hf) (fun _ h4 => ?_)
  refine J_aload_n (pc' := 14) ok (dOf dX5_keep 7 rfl) rfl rfl rfl ?_
  refine J_getR (ci := 5) (kf := 1) (C := RX5) (T := TX5) (N := 4) (pc' := 17) ok (dOf dX5_keep 8 rfl) rfl (by decide) rfl (by decide) win_5 wfl_X5_17 (fun a5 => ?_)
  refine J_aload_n (pc' := 18) ok (dOf dX5_keep 9 rfl) rfl rfl rfl ?_
  refine J_getI (ci := 5) (kf := 3) (C := RX5) (T := TX5) (N := 4) (pc' := 21) ok (dOf dX5_keep 10 rfl) rfl (by decide) rfl (by decide) win_5 wfl_X5_22 (fun x6 => ?_)
  refine J_iload_n (pc' := 22) ok (dOf dX5_keep 11 rfl) rfl rfl rfl ?_
  refine J_iast (pc' := 23) ok (dOf dX5_keep 12 rfl) rfl (fun h7 _ => ?_)
  refine J_aload_n (pc' := 24) ok (dOf dX5_keep 13 rfl) rfl rfl rfl ?_
  refine J_aload_n (pc' := 25) ok (dOf dX5_keep 14 rfl) rfl rfl rfl ?_
  refine J_getI (ci := 5) (kf := 3) (C := RX5) (T := TX5) (N := 4) (pc' := 28) ok (dOf dX5_keep 15 rfl) rfl (by decide) rfl (by decide) win_5 wfl_X5_22 (fun x8 => ?_)
  refine J_iconst (v := 1) (pc' := 29) ok (dOf dX5_keep 16 rfl) rfl (by decide) ?_
  refine J_iadd (pc' := 30) ok (dOf dX5_keep 17 rfl) rfl ?_
  refine J_bipush (v := 12) (pc' := 32) ok (dOf dX5_keep 18 rfl) rfl (by decide) ?_
  refine J_icmp_ge (tgt := 44) (pc' := 35) ok (dOf dX5_keep 19 rfl) rfl (by decide) ?_ ?_
  · refine J_iconst (v := 0) (pc' := 45) ok (dOf dX5_keep 25 rfl) rfl (by decide) ?_
    exact Hist_keep_j45_J ok v0 v1 v2 v0 0 h7
  · refine J_aload_n (pc' := 36) ok (dOf dX5_keep 20 rfl) rfl rfl rfl ?_
    refine J_getI (ci := 5) (kf := 3) (C := RX5) (T := TX5) (N := 4) (pc' := 39) ok (dOf dX5_keep 21 rfl) rfl (by decide) rfl (by decide) win_5 wfl_X5_22 (fun x12 => ?_)
    refine J_iconst (v := 1) (pc' := 40) ok (dOf dX5_keep 22 rfl) rfl (by decide) ?_
    refine J_iadd (pc' := 41) ok (dOf dX5_keep 23 rfl) rfl ?_
    refine J_goto (tgt := 45) ok (dOf dX5_keep 24 rfl) (by decide) ?_
    exact Hist_keep_j45_J ok v0 v1 v2 v0 (x12 + 1) h7
-- X0_forgetAll
abbrev kBook_forgetAll : Cd := (yX0_forgetAll, cX0_forgetAll, 2, none, 1, 23)
theorem dX0_forgetAll : dcheck cX0_forgetAll [(0, .aload_n 0, 1), (1, .getfield 18, 3), (4, .bipush (-2), 2), (6, .invokestatic 22, 3), (9, .iconst 0, 1), (10, .istore_n 1, 1), (11, .iload_n 1, 1), (12, .iconst 4, 1), (13, .if_icmp .ge 19, 3), (16, .aload_n 0, 1), (17, .getfield 12, 3), (20, .getfield 28, 3), (23, .iload_n 1, 1), (24, .iconst 0, 1), (25, .bastore, 1), (26, .iinc 1 1, 3), (29, .goto (-18), 3), (32, .return_, 1)] = true := by decide +kernel
theorem cw_Book_forgetAll {k : Cd} (h1 : kBook_forgetAll.2.2.2.2.1 + 1 ≤ k.2.2.2.2.1) (h2 : 8 + (kBook_forgetAll.2.2.1 + 11) + kBook_forgetAll.2.2.2.2.2 ≤ k.2.2.2.2.2) : Cw k kBook_forgetAll 0 := ⟨wcode_X0_forgetAll, wini_SplitProgram_Book, ⟨by decide, by decide, by decide +kernel⟩, h1, h2⟩
def Book_forgetAll_b11 (v0 : Nat) (s : Int32 × AHeap) : Option ((Int32 × AHeap) ⊕ ((Int32 × AHeap))) :=
  (if 4 ≤ s.1 then some (Sum.inr (s.1, s.2)) else (gfR s.2 v0 0 0).bind fun a3 => (gfR s.2 a3 4 3).bind fun a4 => (ast 1 s.2 a4 s.1 0).bind fun h5 => some (Sum.inl (s.1 + 1, h5)))
theorem Book_forgetAll_b11_J {E : JE} {l : Launch} {G : GX} {r : Option Value} {h' : AHeap} (ok : JOK E l G kBook_forgetAll 0 0 r h') (v0 : Nat) {Y : (Int32 × AHeap) ⊕ ((Int32 × AHeap)) → Prop} (k1 : ∀ s' : Int32 × AHeap, Y (.inl s') → JW E kBook_forgetAll 11 [some (.ref v0), some (.int s'.1)] [] s'.2 0 0) (kx32 : ∀ q : Int32 × AHeap, Y (.inr q) → JW E kBook_forgetAll 32 [some (.ref v0), some (.int q.1)] [] q.2 0 0) (s : Int32 × AHeap) : J E kBook_forgetAll (Book_forgetAll_b11 v0 s) Y 11 [some (.ref v0), some (.int s.1)] [] s.2 0 0 := by
  unfold Book_forgetAll_b11
  refine J_iload_n (pc' := 12) ok (dOf dX0_forgetAll 6 rfl) rfl rfl rfl ?_
  refine J_iconst (v := 4) (pc' := 13) ok (dOf dX0_forgetAll 7 rfl) rfl (by decide) ?_
  refine J_icmp_ge (tgt := 32) (pc' := 16) ok (dOf dX0_forgetAll 8 rfl) rfl (by decide) ?_ ?_
  · exact J_fin (kx32 (s.1, s.2))
  · refine J_aload_n (pc' := 17) ok (dOf dX0_forgetAll 9 rfl) rfl rfl rfl ?_
    refine J_getR (ci := 0) (kf := 0) (C := RX0) (T := TX0) (N := 2) (pc' := 20) ok (dOf dX0_forgetAll 10 rfl) rfl (by decide) rfl (by decide) win_0 wfl_X0_12 (fun a3 => ?_)
    refine J_getR (ci := 4) (kf := 3) (C := RX4) (T := TX4) (N := 12) (pc' := 23) ok (dOf dX0_forgetAll 11 rfl) rfl (by decide) rfl (by decide) win_4 wfl_X0_28 (fun a4 => ?_)
    refine J_iload_n (pc' := 24) ok (dOf dX0_forgetAll 12 rfl) rfl rfl rfl ?_
    refine J_iconst (v := 0) (pc' := 25) ok (dOf dX0_forgetAll 13 rfl) rfl (by decide) ?_
    refine J_zast (pc' := 26) ok (dOf dX0_forgetAll 14 rfl) rfl (fun h5 _ => ?_)
    refine J_iinc (v := s.1 + 1) (ls' := [some (.ref v0), some (.int (s.1 + 1))]) (pc' := 29) ok (dOf dX0_forgetAll 15 rfl) rfl rfl (by rfl) (Nat.le_of_ble_eq_true rfl) rfl rfl ?_
    refine J_goto (tgt := 11) ok (dOf dX0_forgetAll 16 rfl) (by decide) ?_
    exact J_fin (k1 (s.1 + 1, h5))
def Book_forgetAll_j32 (v0 : Nat) (v1 : Int32) (h : AHeap) : Option (Unit × AHeap) :=
  some ((), h)
theorem Book_forgetAll_j32_J {E : JE} {l : Launch} {G : GX} {h' : AHeap} (ok : JOK E l G kBook_forgetAll 0 0 none h') (v0 : Nat) (v1 : Int32) (h : AHeap) : J E kBook_forgetAll (Book_forgetAll_j32 v0 v1 h) (fun z => z = ((), h')) 32 [some (.ref v0), some (.int v1)] [] h 0 0 := by
  unfold Book_forgetAll_j32
  exact J_vreturn ok (dOf dX0_forgetAll 17 rfl) rfl (Eq.refl 0) (Nat.le_refl 0)
def Book_forgetAll (v0 : Nat) (h : AHeap) : Option (Unit × AHeap) :=
  (gfR h v0 0 1).bind fun a1 => bnd2 (J7_fill a1 (-2) h) fun _ h2 => (iter (Book_forgetAll_b11 v0) Lmax (0, h2)).bind (fun (q11 : Int32 × AHeap) => Book_forgetAll_j32 v0 q11.1 q11.2)
theorem t_Book_forgetAll {l : Launch} {G : GX} {v0 : Nat} {h : AHeap} {h1 : AHeap} (hf : Book_forgetAll v0 h = some ((), h1)) : CT l G kBook_forgetAll 0 0 [.ref v0] h none h1 := by
  refine CT_of (ls := [some (.ref v0), none]) (Z := fun z => z = ((), h1)) (by decide +kernel) (Nat.le_of_ble_eq_true rfl) hf rfl ⟨rfl, trivial⟩ (fun E ok => ?_)
  unfold Book_forgetAll
  refine J_aload_n (pc' := 1) ok (dOf dX0_forgetAll 0 rfl) rfl rfl rfl ?_
  refine J_getR (ci := 0) (kf := 1) (C := RX0) (T := TX0) (N := 2) (pc' := 4) ok (dOf dX0_forgetAll 1 rfl) rfl (by decide) rfl (by decide) win_0 wfl_X0_18 (fun a1 => ?_)
  refine J_bipush (v := (-2)) (pc' := 6) ok (dOf dX0_forgetAll 2 rfl) rfl (by decide) ?_
  refine J_callSv (k2 := kJ7_fill) (as := [.ref a1, .int (-2)]) (pc' := 9) ok (dOf dX0_forgetAll 3 rfl) rfl (cw_J7_fill (by decide) (by decide)) wml_X0_22 wstat_J7_fill_53178 ⟨Nat.le_refl 0, Nat.le_refl 0⟩ (Nat.le_of_ble_eq_true rfl) rfl (fun _ _ hf => t_J7_fill hf) (fun _ h2 => ?_)
  refine J_iconst (v := 0) (pc' := 10) ok (dOf dX0_forgetAll 4 rfl) rfl (by decide) ?_
  refine J_istore_n (ls' := [some (.ref v0), some (.int 0)]) (pc' := 11) ok (dOf dX0_forgetAll 5 rfl) rfl rfl (Nat.le_of_ble_eq_true rfl) rfl rfl ?_
  refine J_iter (lf := fun z11 => [some (.ref v0), some (.int z11.1)]) (sf := fun _ => []) (hf := fun z11 => z11.2) (px := (fun (q11 : Int32 × AHeap) => 32)) (lx := (fun (q11 : Int32 × AHeap) => [some (.ref v0), some (.int q11.1)])) (sx := (fun (q11 : Int32 × AHeap) => [])) (hx := (fun (q11 : Int32 × AHeap) => q11.2)) (fun Y2 z11 m1 m2 => Book_forgetAll_b11_J ok v0 m1 m2 z11) (fun q11 => ?_) Lmax _
  exact Book_forgetAll_j32_J ok v0 q11.1 q11.2
-- X7_reset
abbrev kSrch_reset : Cd := (yX7_reset, cX7_reset, 1, none, 0, 0)
theorem dX7_reset : dcheck cX7_reset [(0, .aload_n 0, 1), (1, .iconst 0, 1), (2, .putfield 24, 3), (5, .aload_n 0, 1), (6, .iconst (-1), 1), (7, .putfield 9, 3), (10, .aload_n 0, 1), (11, .iconst (-1), 1), (12, .putfield 15, 3), (15, .aload_n 0, 1), (16, .iconst (-1), 1), (17, .putfield 18, 3), (20, .aload_n 0, 1), (21, .iconst (-1), 1), (22, .putfield 21, 3), (25, .aload_n 0, 1), (26, .iconst 0, 1), (27, .putfield 27, 3), (30, .aload_n 0, 1), (31, .iconst 0, 1), (32, .putfield 30, 3), (35, .return_, 1)] = true := by decide +kernel
theorem cw_Srch_reset {k : Cd} (h1 : kSrch_reset.2.2.2.2.1 + 1 ≤ k.2.2.2.2.1) (h2 : 8 + (kSrch_reset.2.2.1 + 11) + kSrch_reset.2.2.2.2.2 ≤ k.2.2.2.2.2) : Cw k kSrch_reset 0 := ⟨wcode_X7_reset, wini_SplitProgram_Search, ⟨by decide, by decide, by decide +kernel⟩, h1, h2⟩
def Srch_reset (v0 : Nat) (h : AHeap) : Option (Unit × AHeap) :=
  (pfV h v0 7 0 (.int 0)).bind fun h1 => (pfV h1 v0 7 1 (.int (-1))).bind fun h2 => (pfV h2 v0 7 2 (.int (-1))).bind fun h3 => (pfV h3 v0 7 3 (.int (-1))).bind fun h4 => (pfV h4 v0 7 4 (.int (-1))).bind fun h5 => (pfV h5 v0 7 5 (.int 0)).bind fun h6 => (pfV h6 v0 7 6 (.int 0)).bind fun h7 => some ((), h7)
theorem t_Srch_reset {l : Launch} {G : GX} {v0 : Nat} {h : AHeap} {h1 : AHeap} (hf : Srch_reset v0 h = some ((), h1)) : CT l G kSrch_reset 0 0 [.ref v0] h none h1 := by
  refine CT_of (ls := [some (.ref v0)]) (Z := fun z => z = ((), h1)) (by decide +kernel) (Nat.le_of_ble_eq_true rfl) hf rfl ⟨rfl, trivial⟩ (fun E ok => ?_)
  unfold Srch_reset
  refine J_aload_n (pc' := 1) ok (dOf dX7_reset 0 rfl) rfl rfl rfl ?_
  refine J_iconst (v := 0) (pc' := 2) ok (dOf dX7_reset 1 rfl) rfl (by decide) ?_
  refine J_putI (ci := 7) (kf := 0) (C := RX7) (T := TX7) (N := 7) (pc' := 5) ok tyX7 (dOf dX7_reset 2 rfl) rfl rfl (by decide) win_7 tyX7_ok nmX7 rfl rfl wfl_X7_24 (fun h1 _ => ?_)
  refine J_aload_n (pc' := 6) ok (dOf dX7_reset 3 rfl) rfl rfl rfl ?_
  refine J_iconst (v := (-1)) (pc' := 7) ok (dOf dX7_reset 4 rfl) rfl (by decide) ?_
  refine J_putI (ci := 7) (kf := 1) (C := RX7) (T := TX7) (N := 7) (pc' := 10) ok tyX7 (dOf dX7_reset 5 rfl) rfl rfl (by decide) win_7 tyX7_ok nmX7 rfl rfl wfl_X7_9 (fun h2 _ => ?_)
  refine J_aload_n (pc' := 11) ok (dOf dX7_reset 6 rfl) rfl rfl rfl ?_
  refine J_iconst (v := (-1)) (pc' := 12) ok (dOf dX7_reset 7 rfl) rfl (by decide) ?_
  refine J_putI (ci := 7) (kf := 2) (C := RX7) (T := TX7) (N := 7) (pc' := 15) ok tyX7 (dOf dX7_reset 8 rfl) rfl rfl (by decide) win_7 tyX7_ok nmX7 rfl rfl wfl_X7_15 (fun h3 _ => ?_)
  refine J_aload_n (pc' := 16) ok (dOf dX7_reset 9 rfl) rfl rfl rfl ?_
  refine J_iconst (v := (-1)) (pc' := 17) ok (dOf dX7_reset 10 rfl) rfl (by decide) ?_
  refine J_putI (ci := 7) (kf := 3) (C := RX7) (T := TX7) (N := 7) (pc' := 20) ok tyX7 (dOf dX7_reset 11 rfl) rfl rfl (by decide) win_7 tyX7_ok nmX7 rfl rfl wfl_X7_18 (fun h4 _ => ?_)
  refine J_aload_n (pc' := 21) ok (dOf dX7_reset 12 rfl) rfl rfl rfl ?_
  refine J_iconst (v := (-1)) (pc' := 22) ok (dOf dX7_reset 13 rfl) rfl (by decide) ?_
  refine J_putI (ci := 7) (kf := 4) (C := RX7) (T := TX7) (N := 7) (pc' := 25) ok tyX7 (dOf dX7_reset 14 rfl) rfl rfl (by decide) win_7 tyX7_ok nmX7 rfl rfl wfl_X7_21 (fun h5 _ => ?_)
  refine J_aload_n (pc' := 26) ok (dOf dX7_reset 15 rfl) rfl rfl rfl ?_
  refine J_iconst (v := 0) (pc' := 27) ok (dOf dX7_reset 16 rfl) rfl (by decide) ?_
  refine J_putI (ci := 7) (kf := 5) (C := RX7) (T := TX7) (N := 7) (pc' := 30) ok tyX7 (dOf dX7_reset 17 rfl) rfl rfl (by decide) win_7 tyX7_ok nmX7 rfl rfl wfl_X7_27 (fun h6 _ => ?_)
  refine J_aload_n (pc' := 31) ok (dOf dX7_reset 18 rfl) rfl rfl rfl ?_
  refine J_iconst (v := 0) (pc' := 32) ok (dOf dX7_reset 19 rfl) rfl (by decide) ?_
  refine J_putI (ci := 7) (kf := 6) (C := RX7) (T := TX7) (N := 7) (pc' := 35) ok tyX7 (dOf dX7_reset 20 rfl) rfl rfl (by decide) win_7 tyX7_ok nmX7 rfl rfl wfl_X7_30 (fun h7 _ => ?_)
  exact J_vreturn ok (dOf dX7_reset 21 rfl) rfl (Eq.refl 0) (Nat.le_refl 0)
-- X2_holds
abbrev kCuts_holds : Cd := (yX2_holds, cX2_holds, 7, (some .boolean), 0, 0)
theorem dX2_holds : dcheck cX2_holds [(0, .iconst 0, 1), (1, .istore_n 3, 1), (2, .iload_n 3, 1), (3, .aload_n 1, 1), (4, .getfield 54, 3), (7, .if_icmp .ge 95, 3), (10, .iconst 0, 1), (11, .istore 4, 2), (13, .iload 4, 2), (15, .aload_n 1, 1), (16, .getfield 59, 3), (19, .if_icmp .ge 77, 3), (22, .aload_n 1, 1), (23, .getfield 62, 3), (26, .iload_n 3, 1), (27, .bipush 6, 2), (29, .imul, 1), (30, .iload 4, 2), (32, .iadd, 1), (33, .iaload, 1), (34, .istore 5, 2), (36, .aload_n 0, 1), (37, .getfield 19, 3), (40, .iload_n 2, 1), (41, .iaload, 1), (42, .iconst 1, 1), (43, .if_icmp .ne 7, 3), (46, .iconst 0, 1), (47, .goto 5, 3), (50, .iload 5, 2), (52, .istore 6, 2), (54, .iload 5, 2), (56, .iconst (-1), 1), (57, .if_icmp .eq 33, 3), (60, .aload_n 0, 1), (61, .getfield 28, 3), (64, .iload_n 2, 1), (65, .bipush 6, 2), (67, .imul, 1), (68, .iload 4, 2), (70, .iadd, 1), (71, .iaload, 1), (72, .aload_n 0, 1), (73, .getfield 25, 3), (76, .iload_n 2, 1), (77, .iconst 4, 1), (78, .imul, 1), (79, .iload_n 3, 1), (80, .iadd, 1), (81, .iaload, 1), (82, .iload 6, 2), (84, .iadd, 1), (85, .if_icmp .le 5, 3), (88, .iconst 0, 1), (89, .ireturn, 1), (90, .iinc 4 1, 3), (93, .goto (-80), 3), (96, .iinc 3 1, 3), (99, .goto (-97), 3), (102, .iconst 1, 1), (103, .ireturn, 1)] = true := by decide +kernel
theorem cw_Cuts_holds {k : Cd} (h1 : kCuts_holds.2.2.2.2.1 + 1 ≤ k.2.2.2.2.1) (h2 : 8 + (kCuts_holds.2.2.1 + 11) + kCuts_holds.2.2.2.2.2 ≤ k.2.2.2.2.2) : Cw k kCuts_holds 2 := ⟨wcode_X2_holds, wini_SplitProgram_Cuts, ⟨by decide, by decide, by decide +kernel⟩, h1, h2⟩
def Cuts_holds_j90 (v0 : Nat) (v1 : Nat) (v2 : Int32) (v3 : Int32) (v4 : Int32) (v5 : Int32) (v6 : Int32) (h : AHeap) : Option ((Int32) ⊕ ((Int32 × Int32 × Int32) ⊕ (Int32))) :=
  some (Sum.inl (v4 + 1))
theorem Cuts_holds_j90_J {E : JE} {l : Launch} {G : GX} {r : Option Value} {h' : AHeap} (ok : JOK E l G kCuts_holds 0 0 r h') (v0 : Nat) (v1 : Nat) (v2 : Int32) (v3 : Int32) (v4 : Int32) (v5 : Int32) (v6 : Int32) (h : AHeap) {Y : (Int32) ⊕ ((Int32 × Int32 × Int32) ⊕ (Int32)) → Prop} (k1 : ∀ s' : Int32, Y (.inl s') → JW E kCuts_holds 13 [some (.ref v0), some (.ref v1), some (.int v2), some (.int v3), some (.int s'), none, none] [] h 0 0) (kx88 : ∀ q : Int32 × Int32 × Int32, Y (.inr (Sum.inl q)) → JW E kCuts_holds 88 [some (.ref v0), some (.ref v1), some (.int v2), some (.int v3), some (.int q.1), some (.int q.2.1), some (.int q.2.2)] [] h 0 0) (kx96 : ∀ q : Int32, Y (.inr (Sum.inr q)) → JW E kCuts_holds 96 [some (.ref v0), some (.ref v1), some (.int v2), some (.int v3), some (.int q), none, none] [] h 0 0) : J E kCuts_holds (Cuts_holds_j90 v0 v1 v2 v3 v4 v5 v6 h) Y 90 [some (.ref v0), some (.ref v1), some (.int v2), some (.int v3), some (.int v4), some (.int v5), some (.int v6)] [] h 0 0 := by
  unfold Cuts_holds_j90
  refine J_iinc (v := v4 + 1) (ls' := [some (.ref v0), some (.ref v1), some (.int v2), some (.int v3), some (.int (v4 + 1)), some (.int v5), some (.int v6)]) (pc' := 93) ok (dOf dX2_holds 55 rfl) rfl rfl (by rfl) (Nat.le_of_ble_eq_true rfl) rfl rfl ?_
  refine J_goto (tgt := 13) ok (dOf dX2_holds 56 rfl) (by decide) ?_
  refine J_weak (ls' := [some (.ref v0), some (.ref v1), some (.int v2), some (.int v3), some (.int (v4 + 1)), none, none]) ⟨rfl, rfl, rfl, rfl, rfl, trivial⟩ ?_
  exact J_fin (k1 (v4 + 1))
def Cuts_holds_j52 (v0 : Nat) (v1 : Nat) (v2 : Int32) (v3 : Int32) (v4 : Int32) (v5 : Int32) (t0 : Int32) (h : AHeap) : Option ((Int32) ⊕ ((Int32 × Int32 × Int32) ⊕ (Int32))) :=
  (if v5 = (-1) then Cuts_holds_j90 v0 v1 v2 v3 v4 v5 t0 h else (gfR h v0 2 6).bind fun a7 => (ald 0 h a7 ((v2 * 6) + v4)).bind fun x8 => (gfR h v0 2 5).bind fun a9 => (ald 0 h a9 ((v2 * 4) + v3)).bind fun x10 => (if x8 ≤ (x10 + t0) then Cuts_holds_j90 v0 v1 v2 v3 v4 v5 t0 h else some (Sum.inr (Sum.inl (v4, v5, t0)))))
theorem Cuts_holds_j52_J {E : JE} {l : Launch} {G : GX} {r : Option Value} {h' : AHeap} (ok : JOK E l G kCuts_holds 0 0 r h') (v0 : Nat) (v1 : Nat) (v2 : Int32) (v3 : Int32) (v4 : Int32) (v5 : Int32) (t0 : Int32) (h : AHeap) {Y : (Int32) ⊕ ((Int32 × Int32 × Int32) ⊕ (Int32)) → Prop} (k1 : ∀ s' : Int32, Y (.inl s') → JW E kCuts_holds 13 [some (.ref v0), some (.ref v1), some (.int v2), some (.int v3), some (.int s'), none, none] [] h 0 0) (kx88 : ∀ q : Int32 × Int32 × Int32, Y (.inr (Sum.inl q)) → JW E kCuts_holds 88 [some (.ref v0), some (.ref v1), some (.int v2), some (.int v3), some (.int q.1), some (.int q.2.1), some (.int q.2.2)] [] h 0 0) (kx96 : ∀ q : Int32, Y (.inr (Sum.inr q)) → JW E kCuts_holds 96 [some (.ref v0), some (.ref v1), some (.int v2), some (.int v3), some (.int q), none, none] [] h 0 0) : J E kCuts_holds (Cuts_holds_j52 v0 v1 v2 v3 v4 v5 t0 h) Y 52 [some (.ref v0), some (.ref v1), some (.int v2), some (.int v3), some (.int v4), some (.int v5), none] [.int t0] h 0 0 := by
  unfold Cuts_holds_j52
  refine J_istore (ls' := [some (.ref v0), some (.ref v1), some (.int v2), some (.int v3), some (.int v4), some (.int v5), some (.int t0)]) (pc' := 54) ok (dOf dX2_holds 30 rfl) rfl (Nat.le_of_ble_eq_true rfl) rfl rfl ?_
  refine J_iload (pc' := 56) ok (dOf dX2_holds 31 rfl) rfl rfl ?_
  refine J_iconst (v := (-1)) (pc' := 57) ok (dOf dX2_holds 32 rfl) rfl (by decide) ?_
  refine J_icmp_eq (tgt := 90) (pc' := 60) ok (dOf dX2_holds 33 rfl) rfl (by decide) ?_ ?_
  · exact Cuts_holds_j90_J ok v0 v1 v2 v3 v4 v5 t0 h k1 kx88 kx96
  · refine J_aload_n (pc' := 61) ok (dOf dX2_holds 34 rfl) rfl rfl rfl ?_
    refine J_getR (ci := 2) (kf := 6) (C := RX2) (T := TX2) (N := 7) (pc' := 64) ok (dOf dX2_holds 35 rfl) rfl (by decide) rfl (by decide) win_2 wfl_X2_28 (fun a7 => ?_)
    refine J_iload_n (pc' := 65) ok (dOf dX2_holds 36 rfl) rfl rfl rfl ?_
    refine J_bipush (v := 6) (pc' := 67) ok (dOf dX2_holds 37 rfl) rfl (by decide) ?_
    refine J_imul (pc' := 68) ok (dOf dX2_holds 38 rfl) rfl ?_
    refine J_iload (pc' := 70) ok (dOf dX2_holds 39 rfl) rfl rfl ?_
    refine J_iadd (pc' := 71) ok (dOf dX2_holds 40 rfl) rfl ?_
    refine J_iald (pc' := 72) ok (dOf dX2_holds 41 rfl) rfl (fun x8 => ?_)
    refine J_aload_n (pc' := 73) ok (dOf dX2_holds 42 rfl) rfl rfl rfl ?_
    refine J_getR (ci := 2) (kf := 5) (C := RX2) (T := TX2) (N := 7) (pc' := 76) ok (dOf dX2_holds 43 rfl) rfl (by decide) rfl (by decide) win_2 wfl_X2_25 (fun a9 => ?_)
    refine J_iload_n (pc' := 77) ok (dOf dX2_holds 44 rfl) rfl rfl rfl ?_
    refine J_iconst (v := 4) (pc' := 78) ok (dOf dX2_holds 45 rfl) rfl (by decide) ?_
    refine J_imul (pc' := 79) ok (dOf dX2_holds 46 rfl) rfl ?_
    refine J_iload_n (pc' := 80) ok (dOf dX2_holds 47 rfl) rfl rfl rfl ?_
    refine J_iadd (pc' := 81) ok (dOf dX2_holds 48 rfl) rfl ?_
    refine J_iald (pc' := 82) ok (dOf dX2_holds 49 rfl) rfl (fun x10 => ?_)
    refine J_iload (pc' := 84) ok (dOf dX2_holds 50 rfl) rfl rfl ?_
    refine J_iadd (pc' := 85) ok (dOf dX2_holds 51 rfl) rfl ?_
    refine J_icmp_le (tgt := 90) (pc' := 88) ok (dOf dX2_holds 52 rfl) rfl (by decide) ?_ ?_
    · exact Cuts_holds_j90_J ok v0 v1 v2 v3 v4 v5 t0 h k1 kx88 kx96
    · exact J_fin (kx88 (v4, v5, t0))
def Cuts_holds_b13 (v0 : Nat) (v1 : Nat) (v2 : Int32) (v3 : Int32) (h : AHeap) (s : Int32) : Option ((Int32) ⊕ ((Int32 × Int32 × Int32) ⊕ (Int32))) :=
  (gfI h v1 6 1).bind fun x2 => (if x2 ≤ s then some (Sum.inr (Sum.inr s)) else (gfR h v1 6 6).bind fun a3 => (ald 0 h a3 ((v3 * 6) + s)).bind fun x4 => (gfR h v0 2 3).bind fun a5 => (ald 0 h a5 v2).bind fun x6 => (if ¬ x6 = 1 then Cuts_holds_j52 v0 v1 v2 v3 s x4 x4 h else Cuts_holds_j52 v0 v1 v2 v3 s x4 0 h))
theorem Cuts_holds_b13_J {E : JE} {l : Launch} {G : GX} {r : Option Value} {h' : AHeap} (ok : JOK E l G kCuts_holds 0 0 r h') (v0 : Nat) (v1 : Nat) (v2 : Int32) (v3 : Int32) (h : AHeap) {Y : (Int32) ⊕ ((Int32 × Int32 × Int32) ⊕ (Int32)) → Prop} (k1 : ∀ s' : Int32, Y (.inl s') → JW E kCuts_holds 13 [some (.ref v0), some (.ref v1), some (.int v2), some (.int v3), some (.int s'), none, none] [] h 0 0) (kx88 : ∀ q : Int32 × Int32 × Int32, Y (.inr (Sum.inl q)) → JW E kCuts_holds 88 [some (.ref v0), some (.ref v1), some (.int v2), some (.int v3), some (.int q.1), some (.int q.2.1), some (.int q.2.2)] [] h 0 0) (kx96 : ∀ q : Int32, Y (.inr (Sum.inr q)) → JW E kCuts_holds 96 [some (.ref v0), some (.ref v1), some (.int v2), some (.int v3), some (.int q), none, none] [] h 0 0) (s : Int32) : J E kCuts_holds (Cuts_holds_b13 v0 v1 v2 v3 h s) Y 13 [some (.ref v0), some (.ref v1), some (.int v2), some (.int v3), some (.int s), none, none] [] h 0 0 := by
  unfold Cuts_holds_b13
  refine J_iload (pc' := 15) ok (dOf dX2_holds 8 rfl) rfl rfl ?_
  refine J_aload_n (pc' := 16) ok (dOf dX2_holds 9 rfl) rfl rfl rfl ?_
  refine J_getI (ci := 6) (kf := 1) (C := RX6) (T := TX6) (N := 9) (pc' := 19) ok (dOf dX2_holds 10 rfl) rfl (by decide) rfl (by decide) win_6 wfl_X2_59 (fun x2 => ?_)
  refine J_icmp_ge (tgt := 96) (pc' := 22) ok (dOf dX2_holds 11 rfl) rfl (by decide) ?_ ?_
  · exact J_fin (kx96 s)
  · refine J_aload_n (pc' := 23) ok (dOf dX2_holds 12 rfl) rfl rfl rfl ?_
    refine J_getR (ci := 6) (kf := 6) (C := RX6) (T := TX6) (N := 9) (pc' := 26) ok (dOf dX2_holds 13 rfl) rfl (by decide) rfl (by decide) win_6 wfl_X2_62 (fun a3 => ?_)
    refine J_iload_n (pc' := 27) ok (dOf dX2_holds 14 rfl) rfl rfl rfl ?_
    refine J_bipush (v := 6) (pc' := 29) ok (dOf dX2_holds 15 rfl) rfl (by decide) ?_
    refine J_imul (pc' := 30) ok (dOf dX2_holds 16 rfl) rfl ?_
    refine J_iload (pc' := 32) ok (dOf dX2_holds 17 rfl) rfl rfl ?_
    refine J_iadd (pc' := 33) ok (dOf dX2_holds 18 rfl) rfl ?_
    refine J_iald (pc' := 34) ok (dOf dX2_holds 19 rfl) rfl (fun x4 => ?_)
    refine J_istore (ls' := [some (.ref v0), some (.ref v1), some (.int v2), some (.int v3), some (.int s), some (.int x4), none]) (pc' := 36) ok (dOf dX2_holds 20 rfl) rfl (Nat.le_of_ble_eq_true rfl) rfl rfl ?_
    refine J_aload_n (pc' := 37) ok (dOf dX2_holds 21 rfl) rfl rfl rfl ?_
    refine J_getR (ci := 2) (kf := 3) (C := RX2) (T := TX2) (N := 7) (pc' := 40) ok (dOf dX2_holds 22 rfl) rfl (by decide) rfl (by decide) win_2 wfl_X2_19 (fun a5 => ?_)
    refine J_iload_n (pc' := 41) ok (dOf dX2_holds 23 rfl) rfl rfl rfl ?_
    refine J_iald (pc' := 42) ok (dOf dX2_holds 24 rfl) rfl (fun x6 => ?_)
    refine J_iconst (v := 1) (pc' := 43) ok (dOf dX2_holds 25 rfl) rfl (by decide) ?_
    refine J_icmp_ne (tgt := 50) (pc' := 46) ok (dOf dX2_holds 26 rfl) rfl (by decide) ?_ ?_
    · refine J_iload (pc' := 52) ok (dOf dX2_holds 29 rfl) rfl rfl ?_
      exact Cuts_holds_j52_J ok v0 v1 v2 v3 s x4 x4 h k1 kx88 kx96
    · refine J_iconst (v := 0) (pc' := 47) ok (dOf dX2_holds 27 rfl) rfl (by decide) ?_
      refine J_goto (tgt := 52) ok (dOf dX2_holds 28 rfl) (by decide) ?_
      exact Cuts_holds_j52_J ok v0 v1 v2 v3 s x4 0 h k1 kx88 kx96
def Cuts_holds_j96 (v0 : Nat) (v1 : Nat) (v2 : Int32) (v3 : Int32) (v4 : Int32) (h : AHeap) : Option ((Int32) ⊕ ((Int32 × Int32 × Int32 × Int32) ⊕ (Int32))) :=
  some (Sum.inl (v3 + 1))
theorem Cuts_holds_j96_J {E : JE} {l : Launch} {G : GX} {r : Option Value} {h' : AHeap} (ok : JOK E l G kCuts_holds 0 0 r h') (v0 : Nat) (v1 : Nat) (v2 : Int32) (v3 : Int32) (v4 : Int32) (h : AHeap) {Y : (Int32) ⊕ ((Int32 × Int32 × Int32 × Int32) ⊕ (Int32)) → Prop} (k1 : ∀ s' : Int32, Y (.inl s') → JW E kCuts_holds 2 [some (.ref v0), some (.ref v1), some (.int v2), some (.int s'), none, none, none] [] h 0 0) (kx88 : ∀ q : Int32 × Int32 × Int32 × Int32, Y (.inr (Sum.inl q)) → JW E kCuts_holds 88 [some (.ref v0), some (.ref v1), some (.int v2), some (.int q.1), some (.int q.2.1), some (.int q.2.2.1), some (.int q.2.2.2)] [] h 0 0) (kx102 : ∀ q : Int32, Y (.inr (Sum.inr q)) → JW E kCuts_holds 102 [some (.ref v0), some (.ref v1), some (.int v2), some (.int q), none, none, none] [] h 0 0) : J E kCuts_holds (Cuts_holds_j96 v0 v1 v2 v3 v4 h) Y 96 [some (.ref v0), some (.ref v1), some (.int v2), some (.int v3), some (.int v4), none, none] [] h 0 0 := by
  unfold Cuts_holds_j96
  refine J_iinc (v := v3 + 1) (ls' := [some (.ref v0), some (.ref v1), some (.int v2), some (.int (v3 + 1)), some (.int v4), none, none]) (pc' := 99) ok (dOf dX2_holds 57 rfl) rfl rfl (by rfl) (Nat.le_of_ble_eq_true rfl) rfl rfl ?_
  refine J_goto (tgt := 2) ok (dOf dX2_holds 58 rfl) (by decide) ?_
  refine J_weak (ls' := [some (.ref v0), some (.ref v1), some (.int v2), some (.int (v3 + 1)), none, none, none]) ⟨rfl, rfl, rfl, rfl, trivial⟩ ?_
  exact J_fin (k1 (v3 + 1))
def Cuts_holds_b2 (v0 : Nat) (v1 : Nat) (v2 : Int32) (h : AHeap) (s : Int32) : Option ((Int32) ⊕ ((Int32 × Int32 × Int32 × Int32) ⊕ (Int32))) :=
  (gfI h v1 6 0).bind fun x1 => (if x1 ≤ s then some (Sum.inr (Sum.inr s)) else (iter (Cuts_holds_b13 v0 v1 v2 s h) Lmax 0).bind (Sum.elim (fun (q13 : Int32 × Int32 × Int32) => some (Sum.inr (Sum.inl (s, q13.1, q13.2.1, q13.2.2)))) (fun (q13 : Int32) => Cuts_holds_j96 v0 v1 v2 s q13 h)))
theorem Cuts_holds_b2_J {E : JE} {l : Launch} {G : GX} {r : Option Value} {h' : AHeap} (ok : JOK E l G kCuts_holds 0 0 r h') (v0 : Nat) (v1 : Nat) (v2 : Int32) (h : AHeap) {Y : (Int32) ⊕ ((Int32 × Int32 × Int32 × Int32) ⊕ (Int32)) → Prop} (k1 : ∀ s' : Int32, Y (.inl s') → JW E kCuts_holds 2 [some (.ref v0), some (.ref v1), some (.int v2), some (.int s'), none, none, none] [] h 0 0) (kx88 : ∀ q : Int32 × Int32 × Int32 × Int32, Y (.inr (Sum.inl q)) → JW E kCuts_holds 88 [some (.ref v0), some (.ref v1), some (.int v2), some (.int q.1), some (.int q.2.1), some (.int q.2.2.1), some (.int q.2.2.2)] [] h 0 0) (kx102 : ∀ q : Int32, Y (.inr (Sum.inr q)) → JW E kCuts_holds 102 [some (.ref v0), some (.ref v1), some (.int v2), some (.int q), none, none, none] [] h 0 0) (s : Int32) : J E kCuts_holds (Cuts_holds_b2 v0 v1 v2 h s) Y 2 [some (.ref v0), some (.ref v1), some (.int v2), some (.int s), none, none, none] [] h 0 0 := by
  unfold Cuts_holds_b2
  refine J_iload_n (pc' := 3) ok (dOf dX2_holds 2 rfl) rfl rfl rfl ?_
  refine J_aload_n (pc' := 4) ok (dOf dX2_holds 3 rfl) rfl rfl rfl ?_
  refine J_getI (ci := 6) (kf := 0) (C := RX6) (T := TX6) (N := 9) (pc' := 7) ok (dOf dX2_holds 4 rfl) rfl (by decide) rfl (by decide) win_6 wfl_X2_54 (fun x1 => ?_)
  refine J_icmp_ge (tgt := 102) (pc' := 10) ok (dOf dX2_holds 5 rfl) rfl (by decide) ?_ ?_
  · exact J_fin (kx102 s)
  · refine J_iconst (v := 0) (pc' := 11) ok (dOf dX2_holds 6 rfl) rfl (by decide) ?_
    refine J_istore (ls' := [some (.ref v0), some (.ref v1), some (.int v2), some (.int s), some (.int 0), none, none]) (pc' := 13) ok (dOf dX2_holds 7 rfl) rfl (Nat.le_of_ble_eq_true rfl) rfl rfl ?_
    refine J_iter (lf := fun z13 => [some (.ref v0), some (.ref v1), some (.int v2), some (.int s), some (.int z13), none, none]) (sf := fun _ => []) (hf := fun z13 => h) (px := (Sum.elim (fun (q13 : Int32 × Int32 × Int32) => 88) (fun (q13 : Int32) => 96))) (lx := (Sum.elim (fun (q13 : Int32 × Int32 × Int32) => [some (.ref v0), some (.ref v1), some (.int v2), some (.int s), some (.int q13.1), some (.int q13.2.1), some (.int q13.2.2)]) (fun (q13 : Int32) => [some (.ref v0), some (.ref v1), some (.int v2), some (.int s), some (.int q13), none, none]))) (sx := (Sum.elim (fun (q13 : Int32 × Int32 × Int32) => []) (fun (q13 : Int32) => []))) (hx := (Sum.elim (fun (q13 : Int32 × Int32 × Int32) => h) (fun (q13 : Int32) => h))) (fun Y2 z13 m1 m2 => Cuts_holds_b13_J ok v0 v1 v2 s h m1 (fun q hq => m2 (Sum.inl q) hq) (fun q hq => m2 (Sum.inr q) hq) z13) (fun q13 => ?_) Lmax _
    rcases q13 with q13 | q13
    · show J E kCuts_holds (some (Sum.inr (Sum.inl (s, q13.1, q13.2.1, q13.2.2)))) _ 88 [some (.ref v0), some (.ref v1), some (.int v2), some (.int s), some (.int q13.1), some (.int q13.2.1), some (.int q13.2.2)] [] h 0 0
      exact J_fin (kx88 (s, q13.1, q13.2.1, q13.2.2))
    · show J E kCuts_holds (Cuts_holds_j96 v0 v1 v2 s q13 h) _ 96 [some (.ref v0), some (.ref v1), some (.int v2), some (.int s), some (.int q13), none, none] [] h 0 0
      exact Cuts_holds_j96_J ok v0 v1 v2 s q13 h k1 kx88 kx102
def Cuts_holds_j88 (v0 : Nat) (v1 : Nat) (v2 : Int32) (v3 : Int32) (v4 : Int32) (v5 : Int32) (v6 : Int32) (h : AHeap) : Option (Int32 × AHeap) :=
  (bz 0).bind fun z => some (z, h)
theorem Cuts_holds_j88_J {E : JE} {l : Launch} {G : GX} {v : Int32} {h' : AHeap} (ok : JOK E l G kCuts_holds 0 0 (some (.int v)) h') (v0 : Nat) (v1 : Nat) (v2 : Int32) (v3 : Int32) (v4 : Int32) (v5 : Int32) (v6 : Int32) (h : AHeap) : J E kCuts_holds (Cuts_holds_j88 v0 v1 v2 v3 v4 v5 v6 h) (fun z => z = (v, h')) 88 [some (.ref v0), some (.ref v1), some (.int v2), some (.int v3), some (.int v4), some (.int v5), some (.int v6)] [] h 0 0 := by
  unfold Cuts_holds_j88
  refine J_iconst (v := 0) (pc' := 89) ok (dOf dX2_holds 53 rfl) rfl (by decide) ?_
  exact J_zreturn ok (dOf dX2_holds 54 rfl) rfl (Eq.refl 0) (Nat.le_refl 0)
def Cuts_holds_j102 (v0 : Nat) (v1 : Nat) (v2 : Int32) (v3 : Int32) (h : AHeap) : Option (Int32 × AHeap) :=
  (bz 1).bind fun z => some (z, h)
theorem Cuts_holds_j102_J {E : JE} {l : Launch} {G : GX} {v : Int32} {h' : AHeap} (ok : JOK E l G kCuts_holds 0 0 (some (.int v)) h') (v0 : Nat) (v1 : Nat) (v2 : Int32) (v3 : Int32) (h : AHeap) : J E kCuts_holds (Cuts_holds_j102 v0 v1 v2 v3 h) (fun z => z = (v, h')) 102 [some (.ref v0), some (.ref v1), some (.int v2), some (.int v3), none, none, none] [] h 0 0 := by
  unfold Cuts_holds_j102
  refine J_iconst (v := 1) (pc' := 103) ok (dOf dX2_holds 59 rfl) rfl (by decide) ?_
  exact J_zreturn ok (dOf dX2_holds 60 rfl) rfl (Eq.refl 0) (Nat.le_refl 0)
def Cuts_holds (v0 : Nat) (v1 : Nat) (v2 : Int32) (h : AHeap) : Option (Int32 × AHeap) :=
  (iter (Cuts_holds_b2 v0 v1 v2 h) Lmax 0).bind (Sum.elim (fun (q2 : Int32 × Int32 × Int32 × Int32) => Cuts_holds_j88 v0 v1 v2 q2.1 q2.2.1 q2.2.2.1 q2.2.2.2 h) (fun (q2 : Int32) => Cuts_holds_j102 v0 v1 v2 q2 h))
theorem t_Cuts_holds {l : Launch} {G : GX} {v0 : Nat} {v1 : Nat} {v2 : Int32} {h : AHeap} {v : Int32} {h1 : AHeap} (hf : Cuts_holds v0 v1 v2 h = some (v, h1)) : CT l G kCuts_holds 0 0 [.ref v0, .ref v1, .int v2] h (some (.int v)) h1 := by
  refine CT_of (ls := [some (.ref v0), some (.ref v1), some (.int v2), none, none, none, none]) (Z := fun z => z = (v, h1)) (by decide +kernel) (Nat.le_of_ble_eq_true rfl) hf rfl ⟨rfl, rfl, rfl, trivial⟩ (fun E ok => ?_)
  unfold Cuts_holds
  refine J_iconst (v := 0) (pc' := 1) ok (dOf dX2_holds 0 rfl) rfl (by decide) ?_
  refine J_istore_n (ls' := [some (.ref v0), some (.ref v1), some (.int v2), some (.int 0), none, none, none]) (pc' := 2) ok (dOf dX2_holds 1 rfl) rfl rfl (Nat.le_of_ble_eq_true rfl) rfl rfl ?_
  refine J_iter (lf := fun z2 => [some (.ref v0), some (.ref v1), some (.int v2), some (.int z2), none, none, none]) (sf := fun _ => []) (hf := fun z2 => h) (px := (Sum.elim (fun (q2 : Int32 × Int32 × Int32 × Int32) => 88) (fun (q2 : Int32) => 102))) (lx := (Sum.elim (fun (q2 : Int32 × Int32 × Int32 × Int32) => [some (.ref v0), some (.ref v1), some (.int v2), some (.int q2.1), some (.int q2.2.1), some (.int q2.2.2.1), some (.int q2.2.2.2)]) (fun (q2 : Int32) => [some (.ref v0), some (.ref v1), some (.int v2), some (.int q2), none, none, none]))) (sx := (Sum.elim (fun (q2 : Int32 × Int32 × Int32 × Int32) => []) (fun (q2 : Int32) => []))) (hx := (Sum.elim (fun (q2 : Int32 × Int32 × Int32 × Int32) => h) (fun (q2 : Int32) => h))) (fun Y2 z2 m1 m2 => Cuts_holds_b2_J ok v0 v1 v2 h m1 (fun q hq => m2 (Sum.inl q) hq) (fun q hq => m2 (Sum.inr q) hq) z2) (fun q2 => ?_) Lmax _
  rcases q2 with q2 | q2
  · show J E kCuts_holds (Cuts_holds_j88 v0 v1 v2 q2.1 q2.2.1 q2.2.2.1 q2.2.2.2 h) _ 88 [some (.ref v0), some (.ref v1), some (.int v2), some (.int q2.1), some (.int q2.2.1), some (.int q2.2.2.1), some (.int q2.2.2.2)] [] h 0 0
    exact Cuts_holds_j88_J ok v0 v1 v2 q2.1 q2.2.1 q2.2.2.1 q2.2.2.2 h
  · show J E kCuts_holds (Cuts_holds_j102 v0 v1 v2 q2 h) _ 102 [some (.ref v0), some (.ref v1), some (.int v2), some (.int q2), none, none, none] [] h 0 0
    exact Cuts_holds_j102_J ok v0 v1 v2 q2 h
