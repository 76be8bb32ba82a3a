-- X3_pick
abbrev kEng_pick : Cd := (yX3_pick, cX3_pick, 6, (some .int), 4, 99)
theorem dX3_pick : dcheck cX3_pick [(0, .iconst 0, 1), (1, .istore_n 3, 1), (2, .iconst 0, 1), (3, .istore 4, 2), (5, .iload 4, 2), (7, .aload_n 1, 1), (8, .getfield 65, 3), (11, .if_icmp .ge 67, 3), (14, .aload_n 0, 1), (15, .getfield 32, 3), (18, .iload 4, 2), (20, .aload_n 0, 1), (21, .getfield 25, 3), (24, .iload 4, 2), (26, .iaload, 1), (27, .iconst (-1), 1), (28, .if_icmp .eq 20, 3), (31, .aload_n 0, 1), (32, .getfield 25, 3), (35, .iload 4, 2), (37, .iaload, 1), (38, .aload_n 0, 1), (39, .getfield 29, 3), (42, .iload 4, 2), (44, .iaload, 1), (45, .if_icmp .le 7, 3), (48, .iconst 1, 1), (49, .goto 4, 3), (52, .iconst 0, 1), (53, .bastore, 1), (54, .iload_n 3, 1), (55, .aload_n 0, 1), (56, .getfield 32, 3), (59, .iload 4, 2), (61, .baload, 1), (62, .ifCond .eq 7, 3), (65, .iconst 1, 1), (66, .goto 4, 3), (69, .iconst 0, 1), (70, .iadd, 1), (71, .istore_n 3, 1), (72, .iinc 4 1, 3), (75, .goto (-70), 3), (78, .iload_n 2, 1), (79, .ifCond .eq 8, 3), (82, .iload_n 3, 1), (83, .iconst 1, 1), (84, .if_icmp .gt 5, 3), (87, .iload_n 3, 1), (88, .ireturn, 1), (89, .aload_n 0, 1), (90, .aload_n 1, 1), (91, .invokevirtual 147, 3), (94, .istore 4, 2), (96, .iconst 0, 1), (97, .istore 5, 2), (99, .iload 5, 2), (101, .aload_n 1, 1), (102, .getfield 65, 3), (105, .if_icmp .ge 28, 3), (108, .aload_n 0, 1), (109, .getfield 32, 3), (112, .iload 5, 2), (114, .iload 5, 2), (116, .iload 4, 2), (118, .if_icmp .ne 7, 3), (121, .iconst 1, 1), (122, .goto 4, 3), (125, .iconst 0, 1), (126, .bastore, 1), (127, .iinc 5 1, 3), (130, .goto (-31), 3), (133, .iconst 1, 1), (134, .ireturn, 1)] = true := by decide +kernel
theorem cw_Eng_pick {k : Cd} (h1 : kEng_pick.2.2.2.2.1 + 1 ≤ k.2.2.2.2.1) (h2 : 8 + (kEng_pick.2.2.1 + 11) + kEng_pick.2.2.2.2.2 ≤ k.2.2.2.2.2) : Cw k kEng_pick 2 := ⟨wcode_X3_pick, wini_SplitProgram_Engine, ⟨by decide, by decide, by decide +kernel⟩, h1, h2⟩
def Eng_pick_j70 (v0 : Nat) (v1 : Nat) (v2 : Int32) (v3 : Int32) (v4 : Int32) (t0 : Int32) (t1 : Int32) (h : AHeap) : Option ((Int32 × Int32 × AHeap) ⊕ ((Int32 × Int32 × AHeap))) :=
  some (Sum.inl (t0 + t1, v4 + 1, h))
theorem Eng_pick_j70_J {E : JE} {l : Launch} {G : GX} {r : Option Value} {h' : AHeap} (ok : JOK E l G kEng_pick 0 0 r h') (v0 : Nat) (v1 : Nat) (v2 : Int32) (v3 : Int32) (v4 : Int32) (t0 : Int32) (t1 : Int32) (h : AHeap) {Y : (Int32 × Int32 × AHeap) ⊕ ((Int32 × Int32 × AHeap)) → Prop} (k1 : ∀ s' : Int32 × Int32 × AHeap, Y (.inl s') → JW E kEng_pick 5 [some (.ref v0), some (.ref v1), some (.int v2), some (.int s'.1), some (.int s'.2.1), none] [] s'.2.2 0 0) (kx78 : ∀ q : Int32 × Int32 × AHeap, Y (.inr q) → JW E kEng_pick 78 [some (.ref v0), some (.ref v1), some (.int v2), some (.int q.1), some (.int q.2.1), none] [] q.2.2 0 0) : J E kEng_pick (Eng_pick_j70 v0 v1 v2 v3 v4 t0 t1 h) Y 70 [some (.ref v0), some (.ref v1), some (.int v2), some (.int v3), some (.int v4), none] [.int t1, .int t0] h 0 0 := by
  unfold Eng_pick_j70
  refine J_iadd (pc' := 71) ok (dOf dX3_pick 39 rfl) rfl ?_
  refine J_istore_n (ls' := [some (.ref v0), some (.ref v1), some (.int v2), some (.int (t0 + t1)), some (.int v4), none]) (pc' := 72) ok (dOf dX3_pick 40 rfl) rfl rfl (Nat.le_of_ble_eq_true rfl) rfl rfl ?_
  refine J_iinc (v := v4 + 1) (ls' := [some (.ref v0), some (.ref v1), some (.int v2), some (.int (t0 + t1)), some (.int (v4 + 1)), none]) (pc' := 75) ok (dOf dX3_pick 41 rfl) rfl rfl (by rfl) (Nat.le_of_ble_eq_true rfl) rfl rfl ?_
  refine J_goto (tgt := 5) ok (dOf dX3_pick 42 rfl) (by decide) ?_
  exact J_fin (k1 (t0 + t1, v4 + 1, h))
def Eng_pick_j53 (v0 : Nat) (v1 : Nat) (v2 : Int32) (v3 : Int32) (v4 : Int32) (t0 : Nat) (t1 : Int32) (t2 : Int32) (h : AHeap) : Option ((Int32 × Int32 × AHeap) ⊕ ((Int32 × Int32 × AHeap))) :=
  (ast 1 h t0 t1 t2).bind fun h5 => (gfR h5 v0 3 4).bind fun a6 => (ald 1 h5 a6 v4).bind fun x7 => (if x7 = 0 then Eng_pick_j70 v0 v1 v2 v3 v4 v3 0 h5 else Eng_pick_j70 v0 v1 v2 v3 v4 v3 1 h5)
theorem Eng_pick_j53_J {E : JE} {l : Launch} {G : GX} {r : Option Value} {h' : AHeap} (ok : JOK E l G kEng_pick 0 0 r h') (v0 : Nat) (v1 : Nat) (v2 : Int32) (v3 : Int32) (v4 : Int32) (t0 : Nat) (t1 : Int32) (t2 : Int32) (h : AHeap) {Y : (Int32 × Int32 × AHeap) ⊕ ((Int32 × Int32 × AHeap)) → Prop} (k1 : ∀ s' : Int32 × Int32 × AHeap, Y (.inl s') → JW E kEng_pick 5 [some (.ref v0), some (.ref v1), some (.int v2), some (.int s'.1), some (.int s'.2.1), none] [] s'.2.2 0 0) (kx78 : ∀ q : Int32 × Int32 × AHeap, Y (.inr q) → JW E kEng_pick 78 [some (.ref v0), some (.ref v1), some (.int v2), some (.int q.1), some (.int q.2.1), none] [] q.2.2 0 0) : J E kEng_pick (Eng_pick_j53 v0 v1 v2 v3 v4 t0 t1 t2 h) Y 53 [some (.ref v0), some (.ref v1), some (.int v2), some (.int v3), some (.int v4), none] [.int t2, .int t1, .ref t0] h 0 0 := by
  unfold Eng_pick_j53
  refine J_zast (pc' := 54) ok (dOf dX3_pick 29 rfl) rfl (fun h5 _ => ?_)
  refine J_iload_n (pc' := 55) ok (dOf dX3_pick 30 rfl) rfl rfl rfl ?_
  refine J_aload_n (pc' := 56) ok (dOf dX3_pick 31 rfl) rfl rfl rfl ?_
  refine J_getR (ci := 3) (kf := 4) (C := RX3) (T := TX3) (N := 12) (pc' := 59) ok (dOf dX3_pick 32 rfl) rfl (by decide) rfl (by decide) win_3 wfl_X3_32 (fun a6 => ?_)
  refine J_iload (pc' := 61) ok (dOf dX3_pick 33 rfl) rfl rfl ?_
  refine J_zald (pc' := 62) ok (dOf dX3_pick 34 rfl) rfl (fun x7 => ?_)
  refine J_if_eq (tgt := 69) (pc' := 65) ok (dOf dX3_pick 35 rfl) rfl (by decide) ?_ ?_
  · refine J_iconst (v := 0) (pc' := 70) ok (dOf dX3_pick 38 rfl) rfl (by decide) ?_
    exact Eng_pick_j70_J ok v0 v1 v2 v3 v4 v3 0 h5 k1 kx78
  · refine J_iconst (v := 1) (pc' := 66) ok (dOf dX3_pick 36 rfl) rfl (by decide) ?_
    refine J_goto (tgt := 70) ok (dOf dX3_pick 37 rfl) (by decide) ?_
    exact Eng_pick_j70_J ok v0 v1 v2 v3 v4 v3 1 h5 k1 kx78
def Eng_pick_j48 (v0 : Nat) (v1 : Nat) (v2 : Int32) (v3 : Int32) (v4 : Int32) (t0 : Nat) (t1 : Int32) (h : AHeap) : Option ((Int32 × Int32 × AHeap) ⊕ ((Int32 × Int32 × AHeap))) :=
  Eng_pick_j53 v0 v1 v2 v3 v4 t0 t1 1 h
theorem Eng_pick_j48_J {E : JE} {l : Launch} {G : GX} {r : Option Value} {h' : AHeap} (ok : JOK E l G kEng_pick 0 0 r h') (v0 : Nat) (v1 : Nat) (v2 : Int32) (v3 : Int32) (v4 : Int32) (t0 : Nat) (t1 : Int32) (h : AHeap) {Y : (Int32 × Int32 × AHeap) ⊕ ((Int32 × Int32 × AHeap)) → Prop} (k1 : ∀ s' : Int32 × Int32 × AHeap, Y (.inl s') → JW E kEng_pick 5 [some (.ref v0), some (.ref v1), some (.int v2), some (.int s'.1), some (.int s'.2.1), none] [] s'.2.2 0 0) (kx78 : ∀ q : Int32 × Int32 × AHeap, Y (.inr q) → JW E kEng_pick 78 [some (.ref v0), some (.ref v1), some (.int v2), some (.int q.1), some (.int q.2.1), none] [] q.2.2 0 0) : J E kEng_pick (Eng_pick_j48 v0 v1 v2 v3 v4 t0 t1 h) Y 48 [some (.ref v0), some (.ref v1), some (.int v2), some (.int v3), some (.int v4), none] [.int t1, .ref t0] h 0 0 := by
  unfold Eng_pick_j48
  refine J_iconst (v := 1) (pc' := 49) ok (dOf dX3_pick 26 rfl) rfl (by decide) ?_
  refine J_goto (tgt := 53) ok (dOf dX3_pick 27 rfl) (by decide) ?_
  exact Eng_pick_j53_J ok v0 v1 v2 v3 v4 t0 t1 1 h k1 kx78
def Eng_pick_b5 (v0 : Nat) (v1 : Nat) (v2 : Int32) (s : Int32 × Int32 × AHeap) : Option ((Int32 × Int32 × AHeap) ⊕ ((Int32 × Int32 × AHeap))) :=
  (gfI s.2.2 v1 6 2).bind fun x1 => (if x1 ≤ s.2.1 then some (Sum.inr (s.1, s.2.1, s.2.2)) else (gfR s.2.2 v0 3 4).bind fun a2 => (gfR s.2.2 v0 3 2).bind fun a3 => (ald 0 s.2.2 a3 s.2.1).bind fun x4 => (if x4 = (-1) then Eng_pick_j48 v0 v1 v2 s.1 s.2.1 a2 s.2.1 s.2.2 else (gfR s.2.2 v0 3 2).bind fun a8 => (ald 0 s.2.2 a8 s.2.1).bind fun x9 => (gfR s.2.2 v0 3 3).bind fun a10 => (ald 0 s.2.2 a10 s.2.1).bind fun x11 => (if x9 ≤ x11 then Eng_pick_j53 v0 v1 v2 s.1 s.2.1 a2 s.2.1 0 s.2.2 else Eng_pick_j48 v0 v1 v2 s.1 s.2.1 a2 s.2.1 s.2.2)))
theorem Eng_pick_b5_J {E : JE} {l : Launch} {G : GX} {r : Option Value} {h' : AHeap} (ok : JOK E l G kEng_pick 0 0 r h') (v0 : Nat) (v1 : Nat) (v2 : Int32) {Y : (Int32 × Int32 × AHeap) ⊕ ((Int32 × Int32 × AHeap)) → Prop} (k1 : ∀ s' : Int32 × Int32 × AHeap, Y (.inl s') → JW E kEng_pick 5 [some (.ref v0), some (.ref v1), some (.int v2), some (.int s'.1), some (.int s'.2.1), none] [] s'.2.2 0 0) (kx78 : ∀ q : Int32 × Int32 × AHeap, Y (.inr q) → JW E kEng_pick 78 [some (.ref v0), some (.ref v1), some (.int v2), some (.int q.1), some (.int q.2.1), none] [] q.2.2 0 0) (s : Int32 × Int32 × AHeap) : J E kEng_pick (Eng_pick_b5 v0 v1 v2 s) Y 5 [some (.ref v0), some (.ref v1), some (.int v2), some (.int s.1), some (.int s.2.1), none] [] s.2.2 0 0 := by
  unfold Eng_pick_b5
  refine J_iload (pc' := 7) ok (dOf dX3_pick 4 rfl) rfl rfl ?_
  refine J_aload_n (pc' := 8) ok (dOf dX3_pick 5 rfl) rfl rfl rfl ?_
  refine J_getI (ci := 6) (kf := 2) (C := RX6) (T := TX6) (N := 9) (pc' := 11) ok (dOf dX3_pick 6 rfl) rfl (by decide) rfl (by decide) win_6 wfl_X3_65 (fun x1 => ?_)
  refine J_icmp_ge (tgt := 78) (pc' := 14) ok (dOf dX3_pick 7 rfl) rfl (by decide) ?_ ?_
  · exact J_fin (kx78 (s.1, s.2.1, s.2.2))
  · refine J_aload_n (pc' := 15) ok (dOf dX3_pick 8 rfl) rfl rfl rfl ?_
    refine J_getR (ci := 3) (kf := 4) (C := RX3) (T := TX3) (N := 12) (pc' := 18) ok (dOf dX3_pick 9 rfl) rfl (by decide) rfl (by decide) win_3 wfl_X3_32 (fun a2 => ?_)
    refine J_iload (pc' := 20) ok (dOf dX3_pick 10 rfl) rfl rfl ?_
    refine J_aload_n (pc' := 21) ok (dOf dX3_pick 11 rfl) rfl rfl rfl ?_
    refine J_getR (ci := 3) (kf := 2) (C := RX3) (T := TX3) (N := 12) (pc' := 24) ok (dOf dX3_pick 12 rfl) rfl (by decide) rfl (by decide) win_3 wfl_X3_25 (fun a3 => ?_)
    refine J_iload (pc' := 26) ok (dOf dX3_pick 13 rfl) rfl rfl ?_
    refine J_iald (pc' := 27) ok (dOf dX3_pick 14 rfl) rfl (fun x4 => ?_)
    refine J_iconst (v := (-1)) (pc' := 28) ok (dOf dX3_pick 15 rfl) rfl (by decide) ?_
    refine J_icmp_eq (tgt := 48) (pc' := 31) ok (dOf dX3_pick 16 rfl) rfl (by decide) ?_ ?_
    · exact Eng_pick_j48_J ok v0 v1 v2 s.1 s.2.1 a2 s.2.1 s.2.2 k1 kx78
    · refine J_aload_n (pc' := 32) ok (dOf dX3_pick 17 rfl) rfl rfl rfl ?_
      refine J_getR (ci := 3) (kf := 2) (C := RX3) (T := TX3) (N := 12) (pc' := 35) ok (dOf dX3_pick 18 rfl) rfl (by decide) rfl (by decide) win_3 wfl_X3_25 (fun a8 => ?_)
      refine J_iload (pc' := 37) ok (dOf dX3_pick 19 rfl) rfl rfl ?_
      refine J_iald (pc' := 38) ok (dOf dX3_pick 20 rfl) rfl (fun x9 => ?_)
      refine J_aload_n (pc' := 39) ok (dOf dX3_pick 21 rfl) rfl rfl rfl ?_
      refine J_getR (ci := 3) (kf := 3) (C := RX3) (T := TX3) (N := 12) (pc' := 42) ok (dOf dX3_pick 22 rfl) rfl (by decide) rfl (by decide) win_3 wfl_X3_29 (fun a10 => ?_)
      refine J_iload (pc' := 44) ok (dOf dX3_pick 23 rfl) rfl rfl ?_
      refine J_iald (pc' := 45) ok (dOf dX3_pick 24 rfl) rfl (fun x11 => ?_)
      refine J_icmp_le (tgt := 52) (pc' := 48) ok (dOf dX3_pick 25 rfl) rfl (by decide) ?_ ?_
      · refine J_iconst (v := 0) (pc' := 53) ok (dOf dX3_pick 28 rfl) rfl (by decide) ?_
        exact Eng_pick_j53_J ok v0 v1 v2 s.1 s.2.1 a2 s.2.1 0 s.2.2 k1 kx78
      · exact Eng_pick_j48_J ok v0 v1 v2 s.1 s.2.1 a2 s.2.1 s.2.2 k1 kx78
def Eng_pick_j87 (v0 : Nat) (v1 : Nat) (v2 : Int32) (v3 : Int32) (v4 : Int32) (h : AHeap) : Option (Int32 × AHeap) :=
  some (v3, h)
theorem Eng_pick_j87_J {E : JE} {l : Launch} {G : GX} {v : Int32} {h' : AHeap} (ok : JOK E l G kEng_pick 0 0 (some (.int v)) h') (v0 : Nat) (v1 : Nat) (v2 : Int32) (v3 : Int32) (v4 : Int32) (h : AHeap) : J E kEng_pick (Eng_pick_j87 v0 v1 v2 v3 v4 h) (fun z => z = (v, h')) 87 [some (.ref v0), some (.ref v1), some (.int v2), some (.int v3), some (.int v4), none] [] h 0 0 := by
  unfold Eng_pick_j87
  refine J_iload_n (pc' := 88) ok (dOf dX3_pick 48 rfl) rfl rfl rfl ?_
  exact J_ireturn ok (dOf dX3_pick 49 rfl) rfl (Eq.refl 0) (Nat.le_refl 0)
def Eng_pick_j126 (v0 : Nat) (v1 : Nat) (v2 : Int32) (v3 : Int32) (v4 : Int32) (v5 : Int32) (t0 : Nat) (t1 : Int32) (t2 : Int32) (h : AHeap) : Option ((Int32 × AHeap) ⊕ ((Int32 × AHeap))) :=
  (ast 1 h t0 t1 t2).bind fun h16 => some (Sum.inl (v5 + 1, h16))
theorem Eng_pick_j126_J {E : JE} {l : Launch} {G : GX} {r : Option Value} {h' : AHeap} (ok : JOK E l G kEng_pick 0 0 r h') (v0 : Nat) (v1 : Nat) (v2 : Int32) (v3 : Int32) (v4 : Int32) (v5 : Int32) (t0 : Nat) (t1 : Int32) (t2 : Int32) (h : AHeap) {Y : (Int32 × AHeap) ⊕ ((Int32 × AHeap)) → Prop} (k1 : ∀ s' : Int32 × AHeap, Y (.inl s') → JW E kEng_pick 99 [some (.ref v0), some (.ref v1), some (.int v2), some (.int v3), some (.int v4), some (.int s'.1)] [] s'.2 0 0) (kx133 : ∀ q : Int32 × AHeap, Y (.inr q) → JW E kEng_pick 133 [some (.ref v0), some (.ref v1), some (.int v2), some (.int v3), some (.int v4), some (.int q.1)] [] q.2 0 0) : J E kEng_pick (Eng_pick_j126 v0 v1 v2 v3 v4 v5 t0 t1 t2 h) Y 126 [some (.ref v0), some (.ref v1), some (.int v2), some (.int v3), some (.int v4), some (.int v5)] [.int t2, .int t1, .ref t0] h 0 0 := by
  unfold Eng_pick_j126
  refine J_zast (pc' := 127) ok (dOf dX3_pick 69 rfl) rfl (fun h16 _ => ?_)
  refine J_iinc (v := v5 + 1) (ls' := [some (.ref v0), some (.ref v1), some (.int v2), some (.int v3), some (.int v4), some (.int (v5 + 1))]) (pc' := 130) ok (dOf dX3_pick 70 rfl) rfl rfl (by rfl) (Nat.le_of_ble_eq_true rfl) rfl rfl ?_
  refine J_goto (tgt := 99) ok (dOf dX3_pick 71 rfl) (by decide) ?_
  exact J_fin (k1 (v5 + 1, h16))
def Eng_pick_b99 (v0 : Nat) (v1 : Nat) (v2 : Int32) (v3 : Int32) (v4 : Int32) (s : Int32 × AHeap) : Option ((Int32 × AHeap) ⊕ ((Int32 × AHeap))) :=
  (gfI s.2 v1 6 2).bind fun x14 => (if x14 ≤ s.1 then some (Sum.inr (s.1, s.2)) else (gfR s.2 v0 3 4).bind fun a15 => (if ¬ s.1 = v4 then Eng_pick_j126 v0 v1 v2 v3 v4 s.1 a15 s.1 0 s.2 else Eng_pick_j126 v0 v1 v2 v3 v4 s.1 a15 s.1 1 s.2))
theorem Eng_pick_b99_J {E : JE} {l : Launch} {G : GX} {r : Option Value} {h' : AHeap} (ok : JOK E l G kEng_pick 0 0 r h') (v0 : Nat) (v1 : Nat) (v2 : Int32) (v3 : Int32) (v4 : Int32) {Y : (Int32 × AHeap) ⊕ ((Int32 × AHeap)) → Prop} (k1 : ∀ s' : Int32 × AHeap, Y (.inl s') → JW E kEng_pick 99 [some (.ref v0), some (.ref v1), some (.int v2), some (.int v3), some (.int v4), some (.int s'.1)] [] s'.2 0 0) (kx133 : ∀ q : Int32 × AHeap, Y (.inr q) → JW E kEng_pick 133 [some (.ref v0), some (.ref v1), some (.int v2), some (.int v3), some (.int v4), some (.int q.1)] [] q.2 0 0) (s : Int32 × AHeap) : J E kEng_pick (Eng_pick_b99 v0 v1 v2 v3 v4 s) Y 99 [some (.ref v0), some (.ref v1), some (.int v2), some (.int v3), some (.int v4), some (.int s.1)] [] s.2 0 0 := by
  unfold Eng_pick_b99
  refine J_iload (pc' := 101) ok (dOf dX3_pick 56 rfl) rfl rfl ?_
  refine J_aload_n (pc' := 102) ok (dOf dX3_pick 57 rfl) rfl rfl rfl ?_
  refine J_getI (ci := 6) (kf := 2) (C := RX6) (T := TX6) (N := 9) (pc' := 105) ok (dOf dX3_pick 58 rfl) rfl (by decide) rfl (by decide) win_6 wfl_X3_65 (fun x14 => ?_)
  refine J_icmp_ge (tgt := 133) (pc' := 108) ok (dOf dX3_pick 59 rfl) rfl (by decide) ?_ ?_
  · exact J_fin (kx133 (s.1, s.2))
  · refine J_aload_n (pc' := 109) ok (dOf dX3_pick 60 rfl) rfl rfl rfl ?_
    refine J_getR (ci := 3) (kf := 4) (C := RX3) (T := TX3) (N := 12) (pc' := 112) ok (dOf dX3_pick 61 rfl) rfl (by decide) rfl (by decide) win_3 wfl_X3_32 (fun a15 => ?_)
    refine J_iload (pc' := 114) ok (dOf dX3_pick 62 rfl) rfl rfl ?_
    refine J_iload (pc' := 116) ok (dOf dX3_pick 63 rfl) rfl rfl ?_
    refine J_iload (pc' := 118) ok (dOf dX3_pick 64 rfl) rfl rfl ?_
    refine J_icmp_ne (tgt := 125) (pc' := 121) ok (dOf dX3_pick 65 rfl) rfl (by decide) ?_ ?_
    · refine J_iconst (v := 0) (pc' := 126) ok (dOf dX3_pick 68 rfl) rfl (by decide) ?_
      exact Eng_pick_j126_J ok v0 v1 v2 v3 v4 s.1 a15 s.1 0 s.2 k1 kx133
    · refine J_iconst (v := 1) (pc' := 122) ok (dOf dX3_pick 66 rfl) rfl (by decide) ?_
      refine J_goto (tgt := 126) ok (dOf dX3_pick 67 rfl) (by decide) ?_
      exact Eng_pick_j126_J ok v0 v1 v2 v3 v4 s.1 a15 s.1 1 s.2 k1 kx133
def Eng_pick_j133 (v0 : Nat) (v1 : Nat) (v2 : Int32) (v3 : Int32) (v4 : Int32) (v5 : Int32) (h : AHeap) : Option (Int32 × AHeap) :=
  some (1, h)
theorem Eng_pick_j133_J {E : JE} {l : Launch} {G : GX} {v : Int32} {h' : AHeap} (ok : JOK E l G kEng_pick 0 0 (some (.int v)) h') (v0 : Nat) (v1 : Nat) (v2 : Int32) (v3 : Int32) (v4 : Int32) (v5 : Int32) (h : AHeap) : J E kEng_pick (Eng_pick_j133 v0 v1 v2 v3 v4 v5 h) (fun z => z = (v, h')) 133 [some (.ref v0), some (.ref v1), some (.int v2), some (.int v3), some (.int v4), some (.int v5)] [] h 0 0 := by
  unfold Eng_pick_j133
  refine J_iconst (v := 1) (pc' := 134) ok (dOf dX3_pick 72 rfl) rfl (by decide) ?_
  exact J_ireturn ok (dOf dX3_pick 73 rfl) rfl (Eq.refl 0) (Nat.le_refl 0)
def Eng_pick_j78 (v0 : Nat) (v1 : Nat) (v2 : Int32) (v3 : Int32) (v4 : Int32) (h : AHeap) : Option (Int32 × AHeap) :=
  (if v2 = 0 then Eng_pick_j87 v0 v1 v2 v3 v4 h else (if 1 < v3 then (chk h v0 3).bind fun _ => bnd2 (Eng_worstCase v0 v1 h) fun x13 h12 => (iter (Eng_pick_b99 v0 v1 v2 v3 x13) Lmax (0, h12)).bind (fun (q99 : Int32 × AHeap) => Eng_pick_j133 v0 v1 v2 v3 x13 q99.1 q99.2) else Eng_pick_j87 v0 v1 v2 v3 v4 h))
theorem Eng_pick_j78_J {E : JE} {l : Launch} {G : GX} {v : Int32} {h' : AHeap} (ok : JOK E l G kEng_pick 0 0 (some (.int v)) h') (v0 : Nat) (v1 : Nat) (v2 : Int32) (v3 : Int32) (v4 : Int32) (h : AHeap) : J E kEng_pick (Eng_pick_j78 v0 v1 v2 v3 v4 h) (fun z => z = (v, h')) 78 [some (.ref v0), some (.ref v1), some (.int v2), some (.int v3), some (.int v4), none] [] h 0 0 := by
  unfold Eng_pick_j78
  refine J_iload_n (pc' := 79) ok (dOf dX3_pick 43 rfl) rfl rfl rfl ?_
  refine J_if_eq (tgt := 87) (pc' := 82) ok (dOf dX3_pick 44 rfl) rfl (by decide) ?_ ?_
  · exact Eng_pick_j87_J ok v0 v1 v2 v3 v4 h
  · refine J_iload_n (pc' := 83) ok (dOf dX3_pick 45 rfl) rfl rfl rfl ?_
    refine J_iconst (v := 1) (pc' := 84) ok (dOf dX3_pick 46 rfl) rfl (by decide) ?_
    refine J_icmp_gt (tgt := 89) (pc' := 87) ok (dOf dX3_pick 47 rfl) rfl (by decide) ?_ ?_
    · refine J_aload_n (pc' := 90) ok (dOf dX3_pick 50 rfl) rfl rfl rfl ?_
      refine J_aload_n (pc' := 91) ok (dOf dX3_pick 51 rfl) rfl rfl rfl ?_
      refine J_callVi (k2 := kEng_worstCase) (ci := 3) (T := TX3) (N := 12) (as := [.ref v1]) (pc' := 94) ok (dOf dX3_pick 52 rfl) rfl (cw_Eng_worstCase (by decide) (by decide)) wml_X3_147 winst_X3_worstCase wsel_X3_worstCase rfl ⟨Nat.le_refl 0, Nat.le_refl 0⟩ (Nat.le_of_ble_eq_true rfl) rfl (fun _ _ hf => t_Eng_worstCase hf) (fun x13 h12 => ?_)
      refine J_istore (ls' := [some (.ref v0), some (.ref v1), some (.int v2), some (.int v3), some (.int x13), none]) (pc' := 96) ok (dOf dX3_pick 53 rfl) rfl (Nat.le_of_ble_eq_true rfl) rfl rfl ?_
      refine J_iconst (v := 0) (pc' := 97) ok (dOf dX3_pick 54 rfl) rfl (by decide) ?_
      refine J_istore (ls' := [some (.ref v0), some (.ref v1), some (.int v2), some (.int v3), some (.int x13), some (.int 0)]) (pc' := 99) ok (dOf dX3_pick 55 rfl) rfl (Nat.le_of_ble_eq_true rfl) rfl rfl ?_
      refine J_iter (lf := fun z99 => [some (.ref v0), some (.ref v1), some (.int v2), some (.int v3), some (.int x13), some (.int z99.1)]) (sf := fun _ => []) (hf := fun z99 => z99.2) (px := (fun (q99 : Int32 × AHeap) => 133)) (lx := (fun (q99 : Int32 × AHeap) => [some (.ref v0), some (.ref v1), some (.int v2), some (.int v3), some (.int x13), some (.int q99.1)])) (sx := (fun (q99 : Int32 × AHeap) => [])) (hx := (fun (q99 : Int32 × AHeap) => q99.2)) (fun Y2 z99 m1 m2 => Eng_pick_b99_J ok v0 v1 v2 v3 x13 m1 m2 z99) (fun q99 => ?_) Lmax _
      exact Eng_pick_j133_J ok v0 v1 v2 v3 x13 q99.1 q99.2
    · exact Eng_pick_j87_J ok v0 v1 v2 v3 v4 h
def Eng_pick (v0 : Nat) (v1 : Nat) (v2 : Int32) (h : AHeap) : Option (Int32 × AHeap) :=
  (iter (Eng_pick_b5 v0 v1 v2) Lmax (0, 0, h)).bind (fun (q5 : Int32 × Int32 × AHeap) => Eng_pick_j78 v0 v1 v2 q5.1 q5.2.1 q5.2.2)
theorem t_Eng_pick {l : Launch} {G : GX} {v0 : Nat} {v1 : Nat} {v2 : Int32} {h : AHeap} {v : Int32} {h1 : AHeap} (hf : Eng_pick v0 v1 v2 h = some (v, h1)) : CT l G kEng_pick 0 0 [.ref v0, .ref v1, .int v2] h (some (.int v)) h1 := by
  refine CT_of (ls := [some (.ref v0), some (.ref v1), some (.int v2), none, none, none]) (Z := fun z => z = (v, h1)) (by decide +kernel) (Nat.le_of_ble_eq_true rfl) hf rfl ⟨rfl, rfl, rfl, trivial⟩ (fun E ok => ?_)
  unfold Eng_pick
  refine J_iconst (v := 0) (pc' := 1) ok (dOf dX3_pick 0 rfl) rfl (by decide) ?_
  refine J_istore_n (ls' := [some (.ref v0), some (.ref v1), some (.int v2), some (.int 0), none, none]) (pc' := 2) ok (dOf dX3_pick 1 rfl) rfl rfl (Nat.le_of_ble_eq_true rfl) rfl rfl ?_
  refine J_iconst (v := 0) (pc' := 3) ok (dOf dX3_pick 2 rfl) rfl (by decide) ?_
  refine J_istore (ls' := [some (.ref v0), some (.ref v1), some (.int v2), some (.int 0), some (.int 0), none]) (pc' := 5) ok (dOf dX3_pick 3 rfl) rfl (Nat.le_of_ble_eq_true rfl) rfl rfl ?_
  refine J_iter (lf := fun z5 => [some (.ref v0), some (.ref v1), some (.int v2), some (.int z5.1), some (.int z5.2.1), none]) (sf := fun _ => []) (hf := fun z5 => z5.2.2) (px := (fun (q5 : Int32 × Int32 × AHeap) => 78)) (lx := (fun (q5 : Int32 × Int32 × AHeap) => [some (.ref v0), some (.ref v1), some (.int v2), some (.int q5.1), some (.int q5.2.1), none])) (sx := (fun (q5 : Int32 × Int32 × AHeap) => [])) (hx := (fun (q5 : Int32 × Int32 × AHeap) => q5.2.2)) (fun Y2 z5 m1 m2 => Eng_pick_b5_J ok v0 v1 v2 m1 m2 z5) (fun q5 => ?_) Lmax _
  exact Eng_pick_j78_J ok v0 v1 v2 q5.1 q5.2.1 q5.2.2
-- X3_countStaying
abbrev kEng_countStaying : Cd := (yX3_countStaying, cX3_countStaying, 5, (some .int), 0, 0)
theorem dX3_countStaying : dcheck cX3_countStaying [(0, .aload_n 0, 1), (1, .getfield 120, 3), (4, .ifCond .eq 7, 3), (7, .iload_n 2, 1), (8, .ifCond .ne 8, 3), (11, .aload_n 1, 1), (12, .getfield 94, 3), (15, .ireturn, 1), (16, .iconst 0, 1), (17, .istore_n 3, 1), (18, .iconst 0, 1), (19, .istore 4, 2), (21, .iload 4, 2), (23, .aload_n 1, 1), (24, .getfield 94, 3), (27, .if_icmp .ge 28, 3), (30, .iload_n 3, 1), (31, .aload_n 0, 1), (32, .getfield 36, 3), (35, .iload 4, 2), (37, .iaload, 1), (38, .iload_n 2, 1), (39, .if_icmp .ge 7, 3), (42, .iconst 1, 1), (43, .goto 4, 3), (46, .iconst 0, 1), (47, .iadd, 1), (48, .istore_n 3, 1), (49, .iinc 4 1, 3), (52, .goto (-31), 3), (55, .iload_n 3, 1), (56, .ireturn, 1)] = true := by decide +kernel
theorem cw_Eng_countStaying {k : Cd} (h1 : kEng_countStaying.2.2.2.2.1 + 1 ≤ k.2.2.2.2.1) (h2 : 8 + (kEng_countStaying.2.2.1 + 11) + kEng_countStaying.2.2.2.2.2 ≤ k.2.2.2.2.2) : Cw k kEng_countStaying 2 := ⟨wcode_X3_countStaying, wini_SplitProgram_Engine, ⟨by decide, by decide, by decide +kernel⟩, h1, h2⟩
def Eng_countStaying_j11 (v0 : Nat) (v1 : Nat) (v2 : Int32) (h : AHeap) : Option (Int32 × AHeap) :=
  (gfI h v1 2 1).bind fun x2 => some (x2, h)
theorem Eng_countStaying_j11_J {E : JE} {l : Launch} {G : GX} {v : Int32} {h' : AHeap} (ok : JOK E l G kEng_countStaying 0 0 (some (.int v)) h') (v0 : Nat) (v1 : Nat) (v2 : Int32) (h : AHeap) : J E kEng_countStaying (Eng_countStaying_j11 v0 v1 v2 h) (fun z => z = (v, h')) 11 [some (.ref v0), some (.ref v1), some (.int v2), none, none] [] h 0 0 := by
  unfold Eng_countStaying_j11
  refine J_aload_n (pc' := 12) ok (dOf dX3_countStaying 5 rfl) rfl rfl rfl ?_
  refine J_getI (ci := 2) (kf := 1) (C := RX2) (T := TX2) (N := 7) (pc' := 15) ok (dOf dX3_countStaying 6 rfl) rfl (by decide) rfl (by decide) win_2 wfl_X3_94 (fun x2 => ?_)
  exact J_ireturn ok (dOf dX3_countStaying 7 rfl) rfl (Eq.refl 0) (Nat.le_refl 0)
def Eng_countStaying_j47 (v0 : Nat) (v1 : Nat) (v2 : Int32) (v3 : Int32) (v4 : Int32) (t0 : Int32) (t1 : Int32) (h : AHeap) : Option ((Int32 × Int32) ⊕ ((Int32 × Int32))) :=
  some (Sum.inl (t0 + t1, v4 + 1))
theorem Eng_countStaying_j47_J {E : JE} {l : Launch} {G : GX} {r : Option Value} {h' : AHeap} (ok : JOK E l G kEng_countStaying 0 0 r h') (v0 : Nat) (v1 : Nat) (v2 : Int32) (v3 : Int32) (v4 : Int32) (t0 : Int32) (t1 : Int32) (h : AHeap) {Y : (Int32 × Int32) ⊕ ((Int32 × Int32)) → Prop} (k1 : ∀ s' : Int32 × Int32, Y (.inl s') → JW E kEng_countStaying 21 [some (.ref v0), some (.ref v1), some (.int v2), some (.int s'.1), some (.int s'.2)] [] h 0 0) (kx55 : ∀ q : Int32 × Int32, Y (.inr q) → JW E kEng_countStaying 55 [some (.ref v0), some (.ref v1), some (.int v2), some (.int q.1), some (.int q.2)] [] h 0 0) : J E kEng_countStaying (Eng_countStaying_j47 v0 v1 v2 v3 v4 t0 t1 h) Y 47 [some (.ref v0), some (.ref v1), some (.int v2), some (.int v3), some (.int v4)] [.int t1, .int t0] h 0 0 := by
  unfold Eng_countStaying_j47
  refine J_iadd (pc' := 48) ok (dOf dX3_countStaying 26 rfl) rfl ?_
  refine J_istore_n (ls' := [some (.ref v0), some (.ref v1), some (.int v2), some (.int (t0 + t1)), some (.int v4)]) (pc' := 49) ok (dOf dX3_countStaying 27 rfl) rfl rfl (Nat.le_of_ble_eq_true rfl) rfl rfl ?_
  refine J_iinc (v := v4 + 1) (ls' := [some (.ref v0), some (.ref v1), some (.int v2), some (.int (t0 + t1)), some (.int (v4 + 1))]) (pc' := 52) ok (dOf dX3_countStaying 28 rfl) rfl rfl (by rfl) (Nat.le_of_ble_eq_true rfl) rfl rfl ?_
  refine J_goto (tgt := 21) ok (dOf dX3_countStaying 29 rfl) (by decide) ?_
  exact J_fin (k1 (t0 + t1, v4 + 1))
def Eng_countStaying_b21 (v0 : Nat) (v1 : Nat) (v2 : Int32) (h : AHeap) (s : Int32 × Int32) : Option ((Int32 × Int32) ⊕ ((Int32 × Int32))) :=
  (gfI h v1 2 1).bind fun x3 => (if x3 ≤ s.2 then some (Sum.inr (s.1, s.2)) else (gfR h v0 3 5).bind fun a4 => (ald 0 h a4 s.2).bind fun x5 => (if v2 ≤ x5 then Eng_countStaying_j47 v0 v1 v2 s.1 s.2 s.1 0 h else Eng_countStaying_j47 v0 v1 v2 s.1 s.2 s.1 1 h))
theorem Eng_countStaying_b21_J {E : JE} {l : Launch} {G : GX} {r : Option Value} {h' : AHeap} (ok : JOK E l G kEng_countStaying 0 0 r h') (v0 : Nat) (v1 : Nat) (v2 : Int32) (h : AHeap) {Y : (Int32 × Int32) ⊕ ((Int32 × Int32)) → Prop} (k1 : ∀ s' : Int32 × Int32, Y (.inl s') → JW E kEng_countStaying 21 [some (.ref v0), some (.ref v1), some (.int v2), some (.int s'.1), some (.int s'.2)] [] h 0 0) (kx55 : ∀ q : Int32 × Int32, Y (.inr q) → JW E kEng_countStaying 55 [some (.ref v0), some (.ref v1), some (.int v2), some (.int q.1), some (.int q.2)] [] h 0 0) (s : Int32 × Int32) : J E kEng_countStaying (Eng_countStaying_b21 v0 v1 v2 h s) Y 21 [some (.ref v0), some (.ref v1), some (.int v2), some (.int s.1), some (.int s.2)] [] h 0 0 := by
  unfold Eng_countStaying_b21
  refine J_iload (pc' := 23) ok (dOf dX3_countStaying 12 rfl) rfl rfl ?_
  refine J_aload_n (pc' := 24) ok (dOf dX3_countStaying 13 rfl) rfl rfl rfl ?_
  refine J_getI (ci := 2) (kf := 1) (C := RX2) (T := TX2) (N := 7) (pc' := 27) ok (dOf dX3_countStaying 14 rfl) rfl (by decide) rfl (by decide) win_2 wfl_X3_94 (fun x3 => ?_)
  refine J_icmp_ge (tgt := 55) (pc' := 30) ok (dOf dX3_countStaying 15 rfl) rfl (by decide) ?_ ?_
  · exact J_fin (kx55 (s.1, s.2))
  · refine J_iload_n (pc' := 31) ok (dOf dX3_countStaying 16 rfl) rfl rfl rfl ?_
    refine J_aload_n (pc' := 32) ok (dOf dX3_countStaying 17 rfl) rfl rfl rfl ?_
    refine J_getR (ci := 3) (kf := 5) (C := RX3) (T := TX3) (N := 12) (pc' := 35) ok (dOf dX3_countStaying 18 rfl) rfl (by decide) rfl (by decide) win_3 wfl_X3_36 (fun a4 => ?_)
    refine J_iload (pc' := 37) ok (dOf dX3_countStaying 19 rfl) rfl rfl ?_
    refine J_iald (pc' := 38) ok (dOf dX3_countStaying 20 rfl) rfl (fun x5 => ?_)
    refine J_iload_n (pc' := 39) ok (dOf dX3_countStaying 21 rfl) rfl rfl rfl ?_
    refine J_icmp_ge (tgt := 46) (pc' := 42) ok (dOf dX3_countStaying 22 rfl) rfl (by decide) ?_ ?_
    · refine J_iconst (v := 0) (pc' := 47) ok (dOf dX3_countStaying 25 rfl) rfl (by decide) ?_
      exact Eng_countStaying_j47_J ok v0 v1 v2 s.1 s.2 s.1 0 h k1 kx55
    · refine J_iconst (v := 1) (pc' := 43) ok (dOf dX3_countStaying 23 rfl) rfl (by decide) ?_
      refine J_goto (tgt := 47) ok (dOf dX3_countStaying 24 rfl) (by decide) ?_
      exact Eng_countStaying_j47_J ok v0 v1 v2 s.1 s.2 s.1 1 h k1 kx55
def Eng_countStaying_j55 (v0 : Nat) (v1 : Nat) (v2 : Int32) (v3 : Int32) (v4 : Int32) (h : AHeap) : Option (Int32 × AHeap) :=
  some (v3, h)
theorem Eng_countStaying_j55_J {E : JE} {l : Launch} {G : GX} {v : Int32} {h' : AHeap} (ok : JOK E l G kEng_countStaying 0 0 (some (.int v)) h') (v0 : Nat) (v1 : Nat) (v2 : Int32) (v3 : Int32) (v4 : Int32) (h : AHeap) : J E kEng_countStaying (Eng_countStaying_j55 v0 v1 v2 v3 v4 h) (fun z => z = (v, h')) 55 [some (.ref v0), some (.ref v1), some (.int v2), some (.int v3), some (.int v4)] [] h 0 0 := by
  unfold Eng_countStaying_j55
  refine J_iload_n (pc' := 56) ok (dOf dX3_countStaying 30 rfl) rfl rfl rfl ?_
  exact J_ireturn ok (dOf dX3_countStaying 31 rfl) rfl (Eq.refl 0) (Nat.le_refl 0)
def Eng_countStaying (v0 : Nat) (v1 : Nat) (v2 : Int32) (h : AHeap) : Option (Int32 × AHeap) :=
  (gfI h v0 3 11).bind fun x1 => (if x1 = 0 then Eng_countStaying_j11 v0 v1 v2 h else (if ¬ v2 = 0 then (iter (Eng_countStaying_b21 v0 v1 v2 h) Lmax (0, 0)).bind (fun (q21 : Int32 × Int32) => Eng_countStaying_j55 v0 v1 v2 q21.1 q21.2 h) else Eng_countStaying_j11 v0 v1 v2 h))
theorem t_Eng_countStaying {l : Launch} {G : GX} {v0 : Nat} {v1 : Nat} {v2 : Int32} {h : AHeap} {v : Int32} {h1 : AHeap} (hf : Eng_countStaying v0 v1 v2 h = some (v, h1)) : CT l G kEng_countStaying 0 0 [.ref v0, .ref v1, .int v2] h (some (.int v)) h1 := by
  refine CT_of (ls := [some (.ref v0), some (.ref v1), some (.int v2), none, none]) (Z := fun z => z = (v, h1)) (by decide +kernel) (Nat.le_of_ble_eq_true rfl) hf rfl ⟨rfl, rfl, rfl, trivial⟩ (fun E ok => ?_)
  unfold Eng_countStaying
  refine J_aload_n (pc' := 1) ok (dOf dX3_countStaying 0 rfl) rfl rfl rfl ?_
  refine J_getI (ci := 3) (kf := 11) (C := RX3) (T := TX3) (N := 12) (pc' := 4) ok (dOf dX3_countStaying 1 rfl) rfl (by decide) rfl (by decide) win_3 wfl_X3_120 (fun x1 => ?_)
  refine J_if_eq (tgt := 11) (pc' := 7) ok (dOf dX3_countStaying 2 rfl) rfl (by decide) ?_ ?_
  · exact Eng_countStaying_j11_J ok v0 v1 v2 h
  · refine J_iload_n (pc' := 8) ok (dOf dX3_countStaying 3 rfl) rfl rfl rfl ?_
    refine J_if_ne (tgt := 16) (pc' := 11) ok (dOf dX3_countStaying 4 rfl) rfl (by decide) ?_ ?_
    · refine J_iconst (v := 0) (pc' := 17) ok (dOf dX3_countStaying 8 rfl) rfl (by decide) ?_
      refine J_istore_n (ls' := [some (.ref v0), some (.ref v1), some (.int v2), some (.int 0), none]) (pc' := 18) ok (dOf dX3_countStaying 9 rfl) rfl rfl (Nat.le_of_ble_eq_true rfl) rfl rfl ?_
      refine J_iconst (v := 0) (pc' := 19) ok (dOf dX3_countStaying 10 rfl) rfl (by decide) ?_
      refine J_istore (ls' := [some (.ref v0), some (.ref v1), some (.int v2), some (.int 0), some (.int 0)]) (pc' := 21) ok (dOf dX3_countStaying 11 rfl) rfl (Nat.le_of_ble_eq_true rfl) rfl rfl ?_
      refine J_iter (lf := fun z21 => [some (.ref v0), some (.ref v1), some (.int v2), some (.int z21.1), some (.int z21.2)]) (sf := fun _ => []) (hf := fun z21 => h) (px := (fun (q21 : Int32 × Int32) => 55)) (lx := (fun (q21 : Int32 × Int32) => [some (.ref v0), some (.ref v1), some (.int v2), some (.int q21.1), some (.int q21.2)])) (sx := (fun (q21 : Int32 × Int32) => [])) (hx := (fun (q21 : Int32 × Int32) => h)) (fun Y2 z21 m1 m2 => Eng_countStaying_b21_J ok v0 v1 v2 h m1 m2 z21) (fun q21 => ?_) Lmax _
      exact Eng_countStaying_j55_J ok v0 v1 v2 q21.1 q21.2 h
    · exact Eng_countStaying_j11_J ok v0 v1 v2 h
-- X3_decide
abbrev kEng_decide : Cd := (yX3_decide, cX3_decide, 6, (some .boolean), 5, 124)
theorem dX3_decide : dcheck cX3_decide [(0, .aload_n 0, 1), (1, .getfield 21, 3), (4, .aload_n 1, 1), (5, .aload_n 2, 1), (6, .invokevirtual 53, 3), (9, .aload_n 0, 1), (10, .aload_n 0, 1), (11, .getfield 21, 3), (14, .aload_n 1, 1), (15, .invokevirtual 57, 3), (18, .putfield 61, 3), (21, .aload_n 0, 1), (22, .getfield 61, 3), (25, .iconst (-1), 1), (26, .if_icmp .ne 10, 3), (29, .aload_n 0, 1), (30, .iconst 2, 1), (31, .putfield 64, 3), (34, .iconst 1, 1), (35, .ireturn, 1), (36, .iconst 0, 1), (37, .istore 5, 2), (39, .iload 5, 2), (41, .aload_n 1, 1), (42, .getfield 65, 3), (45, .if_icmp .ge 56, 3), (48, .aload_n 0, 1), (49, .getfield 25, 3), (52, .iload 5, 2), (54, .aload_n 0, 1), (55, .getfield 12, 3), (58, .aload_n 1, 1), (59, .iload 5, 2), (61, .aload_n 0, 1), (62, .getfield 61, 3), (65, .invokevirtual 70, 3), (68, .iastore, 1), (69, .aload_n 0, 1), (70, .getfield 29, 3), (73, .iload 5, 2), (75, .aload_n 0, 1), (76, .getfield 21, 3), (79, .getfield 74, 3), (82, .iload 5, 2), (84, .sipush 256, 3), (87, .imul, 1), (88, .aload_n 0, 1), (89, .getfield 61, 3), (92, .iadd, 1), (93, .iaload, 1), (94, .iastore, 1), (95, .iinc 5 1, 3), (98, .goto (-59), 3), (101, .aload_n 0, 1), (102, .aload_n 1, 1), (103, .aload_n 2, 1), (104, .invokevirtual 75, 3), (107, .aload_n 0, 1), (108, .aload_n 1, 1), (109, .aload_n 3, 1), (110, .invokevirtual 78, 3), (113, .aload_n 0, 1), (114, .aload_n 0, 1), (115, .aload 4, 2), (117, .iconst 2, 1), (118, .iaload, 1), (119, .invokevirtual 82, 3), (122, .putfield 64, 3), (125, .aload_n 0, 1), (126, .getfield 64, 3), (129, .ifCond .eq 5, 3), (132, .iconst 1, 1), (133, .ireturn, 1), (134, .aload_n 0, 1), (135, .aload_n 1, 1), (136, .aload 4, 2), (138, .iconst 0, 1), (139, .iaload, 1), (140, .invokevirtual 86, 3), (143, .istore 5, 2), (145, .aload_n 0, 1), (146, .aload_n 2, 1), (147, .aload 4, 2), (149, .iconst 1, 1), (150, .iaload, 1), (151, .invokevirtual 90, 3), (154, .iload 5, 2), (156, .iadd, 1), (157, .aload 4, 2), (159, .iconst 3, 1), (160, .iaload, 1), (161, .if_icmp .gt 7, 3), (164, .iconst 1, 1), (165, .goto 4, 3), (168, .iconst 0, 1), (169, .ireturn, 1)] = true := by decide +kernel
theorem cw_Eng_decide {k : Cd} (h1 : kEng_decide.2.2.2.2.1 + 1 ≤ k.2.2.2.2.1) (h2 : 8 + (kEng_decide.2.2.1 + 11) + kEng_decide.2.2.2.2.2 ≤ k.2.2.2.2.2) : Cw k kEng_decide 4 := ⟨wcode_X3_decide, wini_SplitProgram_Engine, ⟨by decide, by decide, by decide +kernel⟩, h1, h2⟩
def Eng_decide_b39 (v0 : Nat) (v1 : Nat) (v2 : Nat) (v3 : Nat) (v4 : Nat) (s : Int32 × AHeap) : Option ((Int32 × AHeap) ⊕ ((Int32 × AHeap))) :=
  (gfI s.2 v1 6 2).bind fun x8 => (if x8 ≤ s.1 then some (Sum.inr (s.1, s.2)) else (gfR s.2 v0 3 2).bind fun a9 => (gfR s.2 v0 3 0).bind fun a10 => (gfI s.2 v0 3 6).bind fun x11 => (chk s.2 a10 0).bind fun _ => bnd2 (Book_priceAt a10 v1 s.1 x11 s.2) fun x13 h12 => (ast 0 h12 a9 s.1 x13).bind fun h14 => (gfR h14 v0 3 3).bind fun a15 => (gfR h14 v0 3 1).bind fun a16 => (gfR h14 a16 1 1).bind fun a17 => (gfI h14 v0 3 6).bind fun x18 => (ald 0 h14 a17 ((s.1 * 256) + x18)).bind fun x19 => (ast 0 h14 a15 s.1 x19).bind fun h20 => some (Sum.inl (s.1 + 1, h20)))
theorem Eng_decide_b39_J {E : JE} {l : Launch} {G : GX} {r : Option Value} {h' : AHeap} (ok : JOK E l G kEng_decide 0 0 r h') (v0 : Nat) (v1 : Nat) (v2 : Nat) (v3 : Nat) (v4 : Nat) {Y : (Int32 × AHeap) ⊕ ((Int32 × AHeap)) → Prop} (k1 : ∀ s' : Int32 × AHeap, Y (.inl s') → JW E kEng_decide 39 [some (.ref v0), some (.ref v1), some (.ref v2), some (.ref v3), some (.ref v4), some (.int s'.1)] [] s'.2 0 0) (kx101 : ∀ q : Int32 × AHeap, Y (.inr q) → JW E kEng_decide 101 [some (.ref v0), some (.ref v1), some (.ref v2), some (.ref v3), some (.ref v4), some (.int q.1)] [] q.2 0 0) (s : Int32 × AHeap) : J E kEng_decide (Eng_decide_b39 v0 v1 v2 v3 v4 s) Y 39 [some (.ref v0), some (.ref v1), some (.ref v2), some (.ref v3), some (.ref v4), some (.int s.1)] [] s.2 0 0 := by
  unfold Eng_decide_b39
  refine J_iload (pc' := 41) ok (dOf dX3_decide 22 rfl) rfl rfl ?_
  refine J_aload_n (pc' := 42) ok (dOf dX3_decide 23 rfl) rfl rfl rfl ?_
  refine J_getI (ci := 6) (kf := 2) (C := RX6) (T := TX6) (N := 9) (pc' := 45) ok (dOf dX3_decide 24 rfl) rfl (by decide) rfl (by decide) win_6 wfl_X3_65 (fun x8 => ?_)
  refine J_icmp_ge (tgt := 101) (pc' := 48) ok (dOf dX3_decide 25 rfl) rfl (by decide) ?_ ?_
  · exact J_fin (kx101 (s.1, s.2))
  · refine J_aload_n (pc' := 49) ok (dOf dX3_decide 26 rfl) rfl rfl rfl ?_
    refine J_getR (ci := 3) (kf := 2) (C := RX3) (T := TX3) (N := 12) (pc' := 52) ok (dOf dX3_decide 27 rfl) rfl (by decide) rfl (by decide) win_3 wfl_X3_25 (fun a9 => ?_)
    refine J_iload (pc' := 54) ok (dOf dX3_decide 28 rfl) rfl rfl ?_
    refine J_aload_n (pc' := 55) ok (dOf dX3_decide 29 rfl) rfl rfl rfl ?_
    refine J_getR (ci := 3) (kf := 0) (C := RX3) (T := TX3) (N := 12) (pc' := 58) ok (dOf dX3_decide 30 rfl) rfl (by decide) rfl (by decide) win_3 wfl_X3_12 (fun a10 => ?_)
    refine J_aload_n (pc' := 59) ok (dOf dX3_decide 31 rfl) rfl rfl rfl ?_
    refine J_iload (pc' := 61) ok (dOf dX3_decide 32 rfl) rfl rfl ?_
    refine J_aload_n (pc' := 62) ok (dOf dX3_decide 33 rfl) rfl rfl rfl ?_
    refine J_getI (ci := 3) (kf := 6) (C := RX3) (T := TX3) (N := 12) (pc' := 65) ok (dOf dX3_decide 34 rfl) rfl (by decide) rfl (by decide) win_3 wfl_X3_61 (fun x11 => ?_)
    refine J_callVi (k2 := kBook_priceAt) (ci := 0) (T := TX0) (N := 2) (as := [.ref v1, .int s.1, .int x11]) (pc' := 68) ok (dOf dX3_decide 35 rfl) rfl (cw_Book_priceAt (by decide) (by decide)) wml_X3_70 winst_X0_priceAt wsel_X0_priceAt rfl ⟨Nat.le_refl 0, Nat.le_refl 0⟩ (Nat.le_of_ble_eq_true rfl) rfl (fun _ _ hf => t_Book_priceAt hf) (fun x13 h12 => ?_)
    refine J_iast (pc' := 69) ok (dOf dX3_decide 36 rfl) rfl (fun h14 _ => ?_)
    refine J_aload_n (pc' := 70) ok (dOf dX3_decide 37 rfl) rfl rfl rfl ?_
    refine J_getR (ci := 3) (kf := 3) (C := RX3) (T := TX3) (N := 12) (pc' := 73) ok (dOf dX3_decide 38 rfl) rfl (by decide) rfl (by decide) win_3 wfl_X3_29 (fun a15 => ?_)
    refine J_iload (pc' := 75) ok (dOf dX3_decide 39 rfl) rfl rfl ?_
    refine J_aload_n (pc' := 76) ok (dOf dX3_decide 40 rfl) rfl rfl rfl ?_
    refine J_getR (ci := 3) (kf := 1) (C := RX3) (T := TX3) (N := 12) (pc' := 79) ok (dOf dX3_decide 41 rfl) rfl (by decide) rfl (by decide) win_3 wfl_X3_21 (fun a16 => ?_)
    refine J_getR (ci := 1) (kf := 1) (C := RX1) (T := TX1) (N := 3) (pc' := 82) ok (dOf dX3_decide 42 rfl) rfl (by decide) rfl (by decide) win_1 wfl_X3_74 (fun a17 => ?_)
    refine J_iload (pc' := 84) ok (dOf dX3_decide 43 rfl) rfl rfl ?_
    refine J_sipush (v := 256) (pc' := 87) ok (dOf dX3_decide 44 rfl) rfl (by decide) ?_
    refine J_imul (pc' := 88) ok (dOf dX3_decide 45 rfl) rfl ?_
    refine J_aload_n (pc' := 89) ok (dOf dX3_decide 46 rfl) rfl rfl rfl ?_
    refine J_getI (ci := 3) (kf := 6) (C := RX3) (T := TX3) (N := 12) (pc' := 92) ok (dOf dX3_decide 47 rfl) rfl (by decide) rfl (by decide) win_3 wfl_X3_61 (fun x18 => ?_)
    refine J_iadd (pc' := 93) ok (dOf dX3_decide 48 rfl) rfl ?_
    refine J_iald (pc' := 94) ok (dOf dX3_decide 49 rfl) rfl (fun x19 => ?_)
    refine J_iast (pc' := 95) ok (dOf dX3_decide 50 rfl) rfl (fun h20 _ => ?_)
    refine J_iinc (v := s.1 + 1) (ls' := [some (.ref v0), some (.ref v1), some (.ref v2), some (.ref v3), some (.ref v4), some (.int (s.1 + 1))]) (pc' := 98) ok (dOf dX3_decide 51 rfl) rfl rfl (by rfl) (Nat.le_of_ble_eq_true rfl) rfl rfl ?_
    refine J_goto (tgt := 39) ok (dOf dX3_decide 52 rfl) (by decide) ?_
    exact J_fin (k1 (s.1 + 1, h20))
def Eng_decide_j169 (v0 : Nat) (v1 : Nat) (v2 : Nat) (v3 : Nat) (v4 : Nat) (v5 : Int32) (t0 : Int32) (h : AHeap) : Option (Int32 × AHeap) :=
  (bz t0).bind fun z => some (z, h)
theorem Eng_decide_j169_J {E : JE} {l : Launch} {G : GX} {v : Int32} {h' : AHeap} (ok : JOK E l G kEng_decide 0 0 (some (.int v)) h') (v0 : Nat) (v1 : Nat) (v2 : Nat) (v3 : Nat) (v4 : Nat) (v5 : Int32) (t0 : Int32) (h : AHeap) : J E kEng_decide (Eng_decide_j169 v0 v1 v2 v3 v4 v5 t0 h) (fun z => z = (v, h')) 169 [some (.ref v0), some (.ref v1), some (.ref v2), some (.ref v3), some (.ref v4), some (.int v5)] [.int t0] h 0 0 := by
  unfold Eng_decide_j169
  exact J_zreturn ok (dOf dX3_decide 95 rfl) rfl (Eq.refl 0) (Nat.le_refl 0)
def Eng_decide_j101 (v0 : Nat) (v1 : Nat) (v2 : Nat) (v3 : Nat) (v4 : Nat) (v5 : Int32) (h : AHeap) : Option (Int32 × AHeap) :=
  (chk h v0 3).bind fun _ => bnd2 (Eng_findAges v0 v1 v2 h) fun _ h21 => (chk h21 v0 3).bind fun _ => bnd2 (Eng_moveBounds v0 v1 v3 h21) fun _ h22 => (ald 0 h22 v4 2).bind fun x23 => (chk h22 v0 3).bind fun _ => bnd2 (Eng_judge v0 x23 h22) fun x25 h24 => (pfV h24 v0 3 7 (.int x25)).bind fun h26 => (gfI h26 v0 3 7).bind fun x27 => (if x27 = 0 then (ald 0 h26 v4 0).bind fun x28 => (chk h26 v0 3).bind fun _ => bnd2 (Eng_pick v0 v1 x28 h26) fun x30 h29 => (ald 0 h29 v4 1).bind fun x31 => (chk h29 v0 3).bind fun _ => bnd2 (Eng_countStaying v0 v2 x31 h29) fun x33 h32 => (ald 0 h32 v4 3).bind fun x34 => (if x34 < (x33 + x30) then Eng_decide_j169 v0 v1 v2 v3 v4 x30 0 h32 else Eng_decide_j169 v0 v1 v2 v3 v4 x30 1 h32) else (bz 1).bind fun z => some (z, h26))
theorem Eng_decide_j101_J {E : JE} {l : Launch} {G : GX} {v : Int32} {h' : AHeap} (ok : JOK E l G kEng_decide 0 0 (some (.int v)) h') (v0 : Nat) (v1 : Nat) (v2 : Nat) (v3 : Nat) (v4 : Nat) (v5 : Int32) (h : AHeap) : J E kEng_decide (Eng_decide_j101 v0 v1 v2 v3 v4 v5 h) (fun z => z = (v, h')) 101 [some (.ref v0), some (.ref v1), some (.ref v2), some (.ref v3), some (.ref v4), some (.int v5)] [] h 0 0 := by
  unfold Eng_decide_j101
  refine J_aload_n (pc' := 102) ok (dOf dX3_decide 53 rfl) rfl rfl rfl ?_
  refine J_aload_n (pc' := 103) ok (dOf dX3_decide 54 rfl) rfl rfl rfl ?_
  refine J_aload_n (pc' := 104) ok (dOf dX3_decide 55 rfl) rfl rfl rfl ?_
  refine J_callVv (k2 := kEng_findAges) (ci := 3) (T := TX3) (N := 12) (as := [.ref v1, .ref v2]) (pc' := 107) ok (dOf dX3_decide 56 rfl) rfl (cw_Eng_findAges (by decide) (by decide)) wml_X3_75 winst_X3_findAges wsel_X3_findAges rfl ⟨Nat.le_refl 0, Nat.le_refl 0⟩ (Nat.le_of_ble_eq_true rfl) rfl (fun _ _ hf => t_Eng_findAges hf) (fun _ h21 => ?_)
  refine J_aload_n (pc' := 108) ok (dOf dX3_decide 57 rfl) rfl rfl rfl ?_
  refine J_aload_n (pc' := 109) ok (dOf dX3_decide 58 rfl) rfl rfl rfl ?_
  refine J_aload_n (pc' := 110) ok (dOf dX3_decide 59 rfl) rfl rfl rfl ?_
  refine J_callVv (k2 := kEng_moveBounds) (ci := 3) (T := TX3) (N := 12) (as := [.ref v1, .ref v3]) (pc' := 113) ok (dOf dX3_decide 60 rfl) rfl (cw_Eng_moveBounds (by decide) (by decide)) wml_X3_78 winst_X3_moveBounds wsel_X3_moveBounds rfl ⟨Nat.le_refl 0, Nat.le_refl 0⟩ (Nat.le_of_ble_eq_true rfl) rfl (fun _ _ hf => t_Eng_moveBounds hf) (fun _ h22 => ?_)
  refine J_aload_n (pc' := 114) ok (dOf dX3_decide 61 rfl) rfl rfl rfl ?_
  refine J_aload_n (pc' := 115) ok (dOf dX3_decide 62 rfl) rfl rfl rfl ?_
  refine J_aload (pc' := 117) ok (dOf dX3_decide 63 rfl) rfl rfl ?_
  refine J_iconst (v := 2) (pc' := 118) ok (dOf dX3_decide 64 rfl) rfl (by decide) ?_
  refine J_iald (pc' := 119) ok (dOf dX3_decide 65 rfl) rfl (fun x23 => ?_)
  refine J_callVi (k2 := kEng_judge) (ci := 3) (T := TX3) (N := 12) (as := [.int x23]) (pc' := 122) ok (dOf dX3_decide 66 rfl) rfl (cw_Eng_judge (by decide) (by decide)) wml_X3_82 winst_X3_judge wsel_X3_judge rfl ⟨Nat.le_refl 0, Nat.le_refl 0⟩ (Nat.le_of_ble_eq_true rfl) rfl (fun _ _ hf => t_Eng_judge hf) (fun x25 h24 => ?_)
  refine J_putI (ci := 3) (kf := 7) (C := RX3) (T := TX3) (N := 12) (pc' := 125) ok tyX3 (dOf dX3_decide 67 rfl) rfl rfl (by decide) win_3 tyX3_ok nmX3 rfl rfl wfl_X3_64 (fun h26 _ => ?_)
  refine J_aload_n (pc' := 126) ok (dOf dX3_decide 68 rfl) rfl rfl rfl ?_
  refine J_getI (ci := 3) (kf := 7) (C := RX3) (T := TX3) (N := 12) (pc' := 129) ok (dOf dX3_decide 69 rfl) rfl (by decide) rfl (by decide) win_3 wfl_X3_64 (fun x27 => ?_)
  refine J_if_eq (tgt := 134) (pc' := 132) ok (dOf dX3_decide 70 rfl) rfl (by decide) ?_ ?_
  · refine J_aload_n (pc' := 135) ok (dOf dX3_decide 73 rfl) rfl rfl rfl ?_
    refine J_aload_n (pc' := 136) ok (dOf dX3_decide 74 rfl) rfl rfl rfl ?_
    refine J_aload (pc' := 138) ok (dOf dX3_decide 75 rfl) rfl rfl ?_
    refine J_iconst (v := 0) (pc' := 139) ok (dOf dX3_decide 76 rfl) rfl (by decide) ?_
    refine J_iald (pc' := 140) ok (dOf dX3_decide 77 rfl) rfl (fun x28 => ?_)
    refine J_callVi (k2 := kEng_pick) (ci := 3) (T := TX3) (N := 12) (as := [.ref v1, .int x28]) (pc' := 143) ok (dOf dX3_decide 78 rfl) rfl (cw_Eng_pick (by decide) (by decide)) wml_X3_86 winst_X3_pick wsel_X3_pick rfl ⟨Nat.le_refl 0, Nat.le_refl 0⟩ (Nat.le_of_ble_eq_true rfl) rfl (fun _ _ hf => t_Eng_pick hf) (fun x30 h29 => ?_)
    refine J_istore (ls' := [some (.ref v0), some (.ref v1), some (.ref v2), some (.ref v3), some (.ref v4), some (.int x30)]) (pc' := 145) ok (dOf dX3_decide 79 rfl) rfl (Nat.le_of_ble_eq_true rfl) rfl rfl ?_
    refine J_aload_n (pc' := 146) ok (dOf dX3_decide 80 rfl) rfl rfl rfl ?_
    refine J_aload_n (pc' := 147) ok (dOf dX3_decide 81 rfl) rfl rfl rfl ?_
    refine J_aload (pc' := 149) ok (dOf dX3_decide 82 rfl) rfl rfl ?_
    refine J_iconst (v := 1) (pc' := 150) ok (dOf dX3_decide 83 rfl) rfl (by decide) ?_
    refine J_iald (pc' := 151) ok (dOf dX3_decide 84 rfl) rfl (fun x31 => ?_)
    refine J_callVi (k2 := kEng_countStaying) (ci := 3) (T := TX3) (N := 12) (as := [.ref v2, .int x31]) (pc' := 154) ok (dOf dX3_decide 85 rfl) rfl (cw_Eng_countStaying (by decide) (by decide)) wml_X3_90 winst_X3_countStaying wsel_X3_countStaying rfl ⟨Nat.le_refl 0, Nat.le_refl 0⟩ (Nat.le_of_ble_eq_true rfl) rfl (fun _ _ hf => t_Eng_countStaying hf) (fun x33 h32 => ?_)
    refine J_iload (pc' := 156) ok (dOf dX3_decide 86 rfl) rfl rfl ?_
    refine J_iadd (pc' := 157) ok (dOf dX3_decide 87 rfl) rfl ?_
    refine J_aload (pc' := 159) ok (dOf dX3_decide 88 rfl) rfl rfl ?_
    refine J_iconst (v := 3) (pc' := 160) ok (dOf dX3_decide 89 rfl) rfl (by decide) ?_
    refine J_iald (pc' := 161) ok (dOf dX3_decide 90 rfl) rfl (fun x34 => ?_)
    refine J_icmp_gt (tgt := 168) (pc' := 164) ok (dOf dX3_decide 91 rfl) rfl (by decide) ?_ ?_
    · refine J_iconst (v := 0) (pc' := 169) ok (dOf dX3_decide 94 rfl) rfl (by decide) ?_
      exact Eng_decide_j169_J ok v0 v1 v2 v3 v4 x30 0 h32
    · refine J_iconst (v := 1) (pc' := 165) ok (dOf dX3_decide 92 rfl) rfl (by decide) ?_
      refine J_goto (tgt := 169) ok (dOf dX3_decide 93 rfl) (by decide) ?_
      exact Eng_decide_j169_J ok v0 v1 v2 v3 v4 x30 1 h32
  · refine J_iconst (v := 1) (pc' := 133) ok (dOf dX3_decide 71 rfl) rfl (by decide) ?_
    exact J_zreturn ok (dOf dX3_decide 72 rfl) rfl (Eq.refl 0) (Nat.le_refl 0)
def Eng_decide (v0 : Nat) (v1 : Nat) (v2 : Nat) (v3 : Nat) (v4 : Nat) (h : AHeap) : Option (Int32 × AHeap) :=
  (gfR h v0 3 1).bind fun a1 => (chk h a1 1).bind fun _ => bnd2 (Bnds_freshen a1 v1 v2 h) fun _ h2 => (gfR h2 v0 3 1).bind fun a3 => (chk h2 a3 1).bind fun _ => bnd2 (Bnds_lowestPlan a3 v1 h2) fun x5 h4 => (pfV h4 v0 3 6 (.int x5)).bind fun h6 => (gfI h6 v0 3 6).bind fun x7 => (if ¬ x7 = (-1) then (iter (Eng_decide_b39 v0 v1 v2 v3 v4) Lmax (0, h6)).bind (fun (q39 : Int32 × AHeap) => Eng_decide_j101 v0 v1 v2 v3 v4 q39.1 q39.2) else (pfV h6 v0 3 7 (.int 2)).bind fun h35 => (bz 1).bind fun z => some (z, h35))
theorem t_Eng_decide {l : Launch} {G : GX} {v0 : Nat} {v1 : Nat} {v2 : Nat} {v3 : Nat} {v4 : Nat} {h : AHeap} {v : Int32} {h1 : AHeap} (hf : Eng_decide v0 v1 v2 v3 v4 h = some (v, h1)) : CT l G kEng_decide 0 0 [.ref v0, .ref v1, .ref v2, .ref v3, .ref v4] h (some (.int v)) h1 := by
  refine CT_of (ls := [some (.ref v0), some (.ref v1), some (.ref v2), some (.ref v3), some (.ref v4), none]) (Z := fun z => z = (v, h1)) (by decide +kernel) (Nat.le_of_ble_eq_true rfl) hf rfl ⟨rfl, rfl, rfl, rfl, rfl, trivial⟩ (fun E ok => ?_)
  unfold Eng_decide
  refine J_aload_n (pc' := 1) ok (dOf dX3_decide 0 rfl) rfl rfl rfl ?_
  refine J_getR (ci := 3) (kf := 1) (C := RX3) (T := TX3) (N := 12) (pc' := 4) ok (dOf dX3_decide 1 rfl) rfl (by decide) rfl (by decide) win_3 wfl_X3_21 (fun a1 => ?_)
  refine J_aload_n (pc' := 5) ok (dOf dX3_decide 2 rfl) rfl rfl rfl ?_
  refine J_aload_n (pc' := 6) ok (dOf dX3_decide 3 rfl) rfl rfl rfl ?_
  refine J_callVv (k2 := kBnds_freshen) (ci := 1) (T := TX1) (N := 3) (as := [.ref v1, .ref v2]) (pc' := 9) ok (dOf dX3_decide 4 rfl) rfl (cw_Bnds_freshen (by decide) (by decide)) wml_X3_53 winst_X1_freshen wsel_X1_freshen rfl ⟨Nat.le_refl 0, Nat.le_refl 0⟩ (Nat.le_of_ble_eq_true rfl) rfl (fun _ _ hf => t_Bnds_freshen hf) (fun _ h2 => ?_)
  refine J_aload_n (pc' := 10) ok (dOf dX3_decide 5 rfl) rfl rfl rfl ?_
  refine J_aload_n (pc' := 11) ok (dOf dX3_decide 6 rfl) rfl rfl rfl ?_
  refine J_getR (ci := 3) (kf := 1) (C := RX3) (T := TX3) (N := 12) (pc' := 14) ok (dOf dX3_decide 7 rfl) rfl (by decide) rfl (by decide) win_3 wfl_X3_21 (fun a3 => ?_)
  refine J_aload_n (pc' := 15) ok (dOf dX3_decide 8 rfl) rfl rfl rfl ?_
  refine J_callVi (k2 := kBnds_lowestPlan) (ci := 1) (T := TX1) (N := 3) (as := [.ref v1]) (pc' := 18) ok (dOf dX3_decide 9 rfl) rfl (cw_Bnds_lowestPlan (by decide) (by decide)) wml_X3_57 winst_X1_lowestPlan wsel_X1_lowestPlan rfl ⟨Nat.le_refl 0, Nat.le_refl 0⟩ (Nat.le_of_ble_eq_true rfl) rfl (fun _ _ hf => t_Bnds_lowestPlan hf) (fun x5 h4 => ?_)
  refine J_putI (ci := 3) (kf := 6) (C := RX3) (T := TX3) (N := 12) (pc' := 21) ok tyX3 (dOf dX3_decide 10 rfl) rfl rfl (by decide) win_3 tyX3_ok nmX3 rfl rfl wfl_X3_61 (fun h6 _ => ?_)
  refine J_aload_n (pc' := 22) ok (dOf dX3_decide 11 rfl) rfl rfl rfl ?_
  refine J_getI (ci := 3) (kf := 6) (C := RX3) (T := TX3) (N := 12) (pc' := 25) ok (dOf dX3_decide 12 rfl) rfl (by decide) rfl (by decide) win_3 wfl_X3_61 (fun x7 => ?_)
  refine J_iconst (v := (-1)) (pc' := 26) ok (dOf dX3_decide 13 rfl) rfl (by decide) ?_
  refine J_icmp_ne (tgt := 36) (pc' := 29) ok (dOf dX3_decide 14 rfl) rfl (by decide) ?_ ?_
  · refine J_iconst (v := 0) (pc' := 37) ok (dOf dX3_decide 20 rfl) rfl (by decide) ?_
    refine J_istore (ls' := [some (.ref v0), some (.ref v1), some (.ref v2), some (.ref v3), some (.ref v4), some (.int 0)]) (pc' := 39) ok (dOf dX3_decide 21 rfl) rfl (Nat.le_of_ble_eq_true rfl) rfl rfl ?_
    refine J_iter (lf := fun z39 => [some (.ref v0), some (.ref v1), some (.ref v2), some (.ref v3), some (.ref v4), some (.int z39.1)]) (sf := fun _ => []) (hf := fun z39 => z39.2) (px := (fun (q39 : Int32 × AHeap) => 101)) (lx := (fun (q39 : Int32 × AHeap) => [some (.ref v0), some (.ref v1), some (.ref v2), some (.ref v3), some (.ref v4), some (.int q39.1)])) (sx := (fun (q39 : Int32 × AHeap) => [])) (hx := (fun (q39 : Int32 × AHeap) => q39.2)) (fun Y2 z39 m1 m2 => Eng_decide_b39_J ok v0 v1 v2 v3 v4 m1 m2 z39) (fun q39 => ?_) Lmax _
    exact Eng_decide_j101_J ok v0 v1 v2 v3 v4 q39.1 q39.2
  · refine J_aload_n (pc' := 30) ok (dOf dX3_decide 15 rfl) rfl rfl rfl ?_
    refine J_iconst (v := 2) (pc' := 31) ok (dOf dX3_decide 16 rfl) rfl (by decide) ?_
    refine J_putI (ci := 3) (kf := 7) (C := RX3) (T := TX3) (N := 12) (pc' := 34) ok tyX3 (dOf dX3_decide 17 rfl) rfl rfl (by decide) win_3 tyX3_ok nmX3 rfl rfl wfl_X3_64 (fun h35 _ => ?_)
    refine J_iconst (v := 1) (pc' := 35) ok (dOf dX3_decide 18 rfl) rfl (by decide) ?_
    exact J_zreturn ok (dOf dX3_decide 19 rfl) rfl (Eq.refl 0) (Nat.le_refl 0)
-- X2_dropAged
abbrev kCuts_dropAged : Cd := (yX2_dropAged, cX2_dropAged, 4, (some .int), 2, 67)
theorem dX2_dropAged : dcheck cX2_dropAged [(0, .iconst 0, 1), (1, .istore_n 2, 1), (2, .iconst 0, 1), (3, .istore_n 3, 1), (4, .iload_n 3, 1), (5, .aload_n 0, 1), (6, .getfield 31, 3), (9, .if_icmp .ge 28, 3), (12, .aload_n 0, 1), (13, .getfield 22, 3), (16, .iload_n 3, 1), (17, .iaload, 1), (18, .iload_n 1, 1), (19, .if_icmp .ge 12, 3), (22, .aload_n 0, 1), (23, .iload_n 3, 1), (24, .iload_n 2, 1), (25, .invokevirtual 50, 3), (28, .iinc 2 1, 3), (31, .iinc 3 1, 3), (34, .goto (-30), 3), (37, .aload_n 0, 1), (38, .getfield 31, 3), (41, .iload_n 2, 1), (42, .isub, 1), (43, .istore_n 3, 1), (44, .aload_n 0, 1), (45, .iload_n 2, 1), (46, .putfield 31, 3), (49, .iload_n 3, 1), (50, .ireturn, 1)] = true := by decide +kernel
theorem cw_Cuts_dropAged {k : Cd} (h1 : kCuts_dropAged.2.2.2.2.1 + 1 ≤ k.2.2.2.2.1) (h2 : 8 + (kCuts_dropAged.2.2.1 + 11) + kCuts_dropAged.2.2.2.2.2 ≤ k.2.2.2.2.2) : Cw k kCuts_dropAged 1 := ⟨wcode_X2_dropAged, wini_SplitProgram_Cuts, ⟨by decide, by decide, by decide +kernel⟩, h1, h2⟩
def Cuts_dropAged_j31 (v0 : Nat) (v1 : Int32) (v2 : Int32) (v3 : Int32) (h : AHeap) : Option ((Int32 × Int32 × AHeap) ⊕ ((Int32 × Int32 × AHeap))) :=
  some (Sum.inl (v2, v3 + 1, h))
theorem Cuts_dropAged_j31_J {E : JE} {l : Launch} {G : GX} {r : Option Value} {h' : AHeap} (ok : JOK E l G kCuts_dropAged 0 0 r h') (v0 : Nat) (v1 : Int32) (v2 : Int32) (v3 : Int32) (h : AHeap) {Y : (Int32 × Int32 × AHeap) ⊕ ((Int32 × Int32 × AHeap)) → Prop} (k1 : ∀ s' : Int32 × Int32 × AHeap, Y (.inl s') → JW E kCuts_dropAged 4 [some (.ref v0), some (.int v1), some (.int s'.1), some (.int s'.2.1)] [] s'.2.2 0 0) (kx37 : ∀ q : Int32 × Int32 × AHeap, Y (.inr q) → JW E kCuts_dropAged 37 [some (.ref v0), some (.int v1), some (.int q.1), some (.int q.2.1)] [] q.2.2 0 0) : J E kCuts_dropAged (Cuts_dropAged_j31 v0 v1 v2 v3 h) Y 31 [some (.ref v0), some (.int v1), some (.int v2), some (.int v3)] [] h 0 0 := by
  unfold Cuts_dropAged_j31
  refine J_iinc (v := v3 + 1) (ls' := [some (.ref v0), some (.int v1), some (.int v2), some (.int (v3 + 1))]) (pc' := 34) ok (dOf dX2_dropAged 19 rfl) rfl rfl (by rfl) (Nat.le_of_ble_eq_true rfl) rfl rfl ?_
  refine J_goto (tgt := 4) ok (dOf dX2_dropAged 20 rfl) (by decide) ?_
  exact J_fin (k1 (v2, v3 + 1, h))
def Cuts_dropAged_b4 (v0 : Nat) (v1 : Int32) (s : Int32 × Int32 × AHeap) : Option ((Int32 × Int32 × AHeap) ⊕ ((Int32 × Int32 × AHeap))) :=
  (gfI s.2.2 v0 2 1).bind fun x1 => (if x1 ≤ s.2.1 then some (Sum.inr (s.1, s.2.1, s.2.2)) else (gfR s.2.2 v0 2 4).bind fun a2 => (ald 0 s.2.2 a2 s.2.1).bind fun x3 => (if v1 ≤ x3 then Cuts_dropAged_j31 v0 v1 s.1 s.2.1 s.2.2 else (chk s.2.2 v0 2).bind fun _ => bnd2 (Cuts_move v0 s.2.1 s.1 s.2.2) fun _ h4 => Cuts_dropAged_j31 v0 v1 (s.1 + 1) s.2.1 h4))
theorem Cuts_dropAged_b4_J {E : JE} {l : Launch} {G : GX} {r : Option Value} {h' : AHeap} (ok : JOK E l G kCuts_dropAged 0 0 r h') (v0 : Nat) (v1 : Int32) {Y : (Int32 × Int32 × AHeap) ⊕ ((Int32 × Int32 × AHeap)) → Prop} (k1 : ∀ s' : Int32 × Int32 × AHeap, Y (.inl s') → JW E kCuts_dropAged 4 [some (.ref v0), some (.int v1), some (.int s'.1), some (.int s'.2.1)] [] s'.2.2 0 0) (kx37 : ∀ q : Int32 × Int32 × AHeap, Y (.inr q) → JW E kCuts_dropAged 37 [some (.ref v0), some (.int v1), some (.int q.1), some (.int q.2.1)] [] q.2.2 0 0) (s : Int32 × Int32 × AHeap) : J E kCuts_dropAged (Cuts_dropAged_b4 v0 v1 s) Y 4 [some (.ref v0), some (.int v1), some (.int s.1), some (.int s.2.1)] [] s.2.2 0 0 := by
  unfold Cuts_dropAged_b4
  refine J_iload_n (pc' := 5) ok (dOf dX2_dropAged 4 rfl) rfl rfl rfl ?_
  refine J_aload_n (pc' := 6) ok (dOf dX2_dropAged 5 rfl) rfl rfl rfl ?_
  refine J_getI (ci := 2) (kf := 1) (C := RX2) (T := TX2) (N := 7) (pc' := 9) ok (dOf dX2_dropAged 6 rfl) rfl (by decide) rfl (by decide) win_2 wfl_X2_31 (fun x1 => ?_)
  refine J_icmp_ge (tgt := 37) (pc' := 12) ok (dOf dX2_dropAged 7 rfl) rfl (by decide) ?_ ?_
  · exact J_fin (kx37 (s.1, s.2.1, s.2.2))
  · refine J_aload_n (pc' := 13) ok (dOf dX2_dropAged 8 rfl) rfl rfl rfl ?_
    refine J_getR (ci := 2) (kf := 4) (C := RX2) (T := TX2) (N := 7) (pc' := 16) ok (dOf dX2_dropAged 9 rfl) rfl (by decide) rfl (by decide) win_2 wfl_X2_22 (fun a2 => ?_)
    refine J_iload_n (pc' := 17) ok (dOf dX2_dropAged 10 rfl) rfl rfl rfl ?_
    refine J_iald (pc' := 18) ok (dOf dX2_dropAged 11 rfl) rfl (fun x3 => ?_)
    refine J_iload_n (pc' := 19) ok (dOf dX2_dropAged 12 rfl) rfl rfl rfl ?_
    refine J_icmp_ge (tgt := 31) (pc' := 22) ok (dOf dX2_dropAged 13 rfl) rfl (by decide) ?_ ?_
    · exact Cuts_dropAged_j31_J ok v0 v1 s.1 s.2.1 s.2.2 k1 kx37
    · refine J_aload_n (pc' := 23) ok (dOf dX2_dropAged 14 rfl) rfl rfl rfl ?_
      refine J_iload_n (pc' := 24) ok (dOf dX2_dropAged 15 rfl) rfl rfl rfl ?_
      refine J_iload_n (pc' := 25) ok (dOf dX2_dropAged 16 rfl) rfl rfl rfl ?_
      refine J_callVv (k2 := kCuts_move) (ci := 2) (T := TX2) (N := 7) (as := [.int s.2.1, .int s.1]) (pc' := 28) ok (dOf dX2_dropAged 17 rfl) rfl (cw_Cuts_move (by decide) (by decide)) wml_X2_50 winst_X2_move wsel_X2_move rfl ⟨Nat.le_refl 0, Nat.le_refl 0⟩ (Nat.le_of_ble_eq_true rfl) rfl (fun _ _ hf => t_Cuts_move hf) (fun _ h4 => ?_)
      refine J_iinc (v := s.1 + 1) (ls' := [some (.ref v0), some (.int v1), some (.int (s.1 + 1)), some (.int s.2.1)]) (pc' := 31) ok (dOf dX2_dropAged 18 rfl) rfl rfl (by rfl) (Nat.le_of_ble_eq_true rfl) rfl rfl ?_
      exact Cuts_dropAged_j31_J ok v0 v1 (s.1 + 1) s.2.1 h4 k1 kx37
def Cuts_dropAged_j37 (v0 : Nat) (v1 : Int32) (v2 : Int32) (v3 : Int32) (h : AHeap) : Option (Int32 × AHeap) :=
  (gfI h v0 2 1).bind fun x5 => (pfV h v0 2 1 (.int v2)).bind fun h6 => some (x5 - v2, h6)
theorem Cuts_dropAged_j37_J {E : JE} {l : Launch} {G : GX} {v : Int32} {h' : AHeap} (ok : JOK E l G kCuts_dropAged 0 0 (some (.int v)) h') (v0 : Nat) (v1 : Int32) (v2 : Int32) (v3 : Int32) (h : AHeap) : J E kCuts_dropAged (Cuts_dropAged_j37 v0 v1 v2 v3 h) (fun z => z = (v, h')) 37 [some (.ref v0), some (.int v1), some (.int v2), some (.int v3)] [] h 0 0 := by
  unfold Cuts_dropAged_j37
  refine J_aload_n (pc' := 38) ok (dOf dX2_dropAged 21 rfl) rfl rfl rfl ?_
  refine J_getI (ci := 2) (kf := 1) (C := RX2) (T := TX2) (N := 7) (pc' := 41) ok (dOf dX2_dropAged 22 rfl) rfl (by decide) rfl (by decide) win_2 wfl_X2_31 (fun x5 => ?_)
  refine J_iload_n (pc' := 42) ok (dOf dX2_dropAged 23 rfl) rfl rfl rfl ?_
  refine J_isub (pc' := 43) ok (dOf dX2_dropAged 24 rfl) rfl ?_
  refine J_istore_n (ls' := [some (.ref v0), some (.int v1), some (.int v2), some (.int (x5 - v2))]) (pc' := 44) ok (dOf dX2_dropAged 25 rfl) rfl rfl (Nat.le_of_ble_eq_true rfl) rfl rfl ?_
  refine J_aload_n (pc' := 45) ok (dOf dX2_dropAged 26 rfl) rfl rfl rfl ?_
  refine J_iload_n (pc' := 46) ok (dOf dX2_dropAged 27 rfl) rfl rfl rfl ?_
  refine J_putI (ci := 2) (kf := 1) (C := RX2) (T := TX2) (N := 7) (pc' := 49) ok tyX2 (dOf dX2_dropAged 28 rfl) rfl rfl (by decide) win_2 tyX2_ok nmX2 rfl rfl wfl_X2_31 (fun h6 _ => ?_)
  refine J_iload_n (pc' := 50) ok (dOf dX2_dropAged 29 rfl) rfl rfl rfl ?_
  exact J_ireturn ok (dOf dX2_dropAged 30 rfl) rfl (Eq.refl 0) (Nat.le_refl 0)
def Cuts_dropAged (v0 : Nat) (v1 : Int32) (h : AHeap) : Option (Int32 × AHeap) :=
  (iter (Cuts_dropAged_b4 v0 v1) Lmax (0, 0, h)).bind (fun (q4 : Int32 × Int32 × AHeap) => Cuts_dropAged_j37 v0 v1 q4.1 q4.2.1 q4.2.2)
theorem t_Cuts_dropAged {l : Launch} {G : GX} {v0 : Nat} {v1 : Int32} {h : AHeap} {v : Int32} {h1 : AHeap} (hf : Cuts_dropAged v0 v1 h = some (v, h1)) : CT l G kCuts_dropAged 0 0 [.ref v0, .int v1] h (some (.int v)) h1 := by
  refine CT_of (ls := [some (.ref v0), some (.int v1), none, none]) (Z := fun z => z = (v, h1)) (by decide +kernel) (Nat.le_of_ble_eq_true rfl) hf rfl ⟨rfl, rfl, trivial⟩ (fun E ok => ?_)
  unfold Cuts_dropAged
  refine J_iconst (v := 0) (pc' := 1) ok (dOf dX2_dropAged 0 rfl) rfl (by decide) ?_
  refine J_istore_n (ls' := [some (.ref v0), some (.int v1), some (.int 0), none]) (pc' := 2) ok (dOf dX2_dropAged 1 rfl) rfl rfl (Nat.le_of_ble_eq_true rfl) rfl rfl ?_
  refine J_iconst (v := 0) (pc' := 3) ok (dOf dX2_dropAged 2 rfl) rfl (by decide) ?_
  refine J_istore_n (ls' := [some (.ref v0), some (.int v1), some (.int 0), some (.int 0)]) (pc' := 4) ok (dOf dX2_dropAged 3 rfl) rfl rfl (Nat.le_of_ble_eq_true rfl) rfl rfl ?_
  refine J_iter (lf := fun z4 => [some (.ref v0), some (.int v1), some (.int z4.1), some (.int z4.2.1)]) (sf := fun _ => []) (hf := fun z4 => z4.2.2) (px := (fun (q4 : Int32 × Int32 × AHeap) => 37)) (lx := (fun (q4 : Int32 × Int32 × AHeap) => [some (.ref v0), some (.int v1), some (.int q4.1), some (.int q4.2.1)])) (sx := (fun (q4 : Int32 × Int32 × AHeap) => [])) (hx := (fun (q4 : Int32 × Int32 × AHeap) => q4.2.2)) (fun Y2 z4 m1 m2 => Cuts_dropAged_b4_J ok v0 v1 m1 m2 z4) (fun q4 => ?_) Lmax _
  exact Cuts_dropAged_j37_J ok v0 v1 q4.1 q4.2.1 q4.2.2
-- X4_findRay
abbrev kFrt_findRay : Cd := (yX4_findRay, cX4_findRay, 9, none, 1, 23)
theorem dX4_findRay : dcheck cX4_findRay [(0, .iconst 0, 1), (1, .istore 4, 2), (3, .iload 4, 2), (5, .aload_n 1, 1), (6, .getfield 49, 3), (9, .if_icmp .ge 172, 3), (12, .aload_n 1, 1), (13, .iload 4, 2), (15, .invokevirtual 55, 3), (18, .istore 5, 2), (20, .aload_n 1, 1), (21, .getfield 59, 3), (24, .iload_n 2, 1), (25, .bipush 6, 2), (27, .imul, 1), (28, .iload 4, 2), (30, .iadd, 1), (31, .iaload, 1), (32, .ifCond .le 7, 3), (35, .iconst 1, 1), (36, .goto 4, 3), (39, .iconst 0, 1), (40, .istore 6, 2), (42, .iconst 0, 1), (43, .istore 7, 2), (45, .iload 7, 2), (47, .bipush 16, 2), (49, .if_icmp .ge 67, 3), (52, .aload_n 0, 1), (53, .getfield 18, 3), (56, .iload_n 2, 1), (57, .bipush 16, 2), (59, .imul, 1), (60, .iload 7, 2), (62, .iadd, 1), (63, .iaload, 1), (64, .aload_n 0, 1), (65, .getfield 15, 3), (68, .iload 7, 2), (70, .iaload, 1), (71, .isub, 1), (72, .iload_n 3, 1), (73, .if_icmp .ne 7, 3), (76, .iconst 1, 1), (77, .goto 4, 3), (80, .iconst 0, 1), (81, .istore 8, 2), (83, .iload 6, 2), (85, .ifCond .eq 22, 3), (88, .iload 8, 2), (90, .ifCond .eq 13, 3), (93, .iload 5, 2), (95, .iload 7, 2), (97, .iconst (-1), 1), (98, .ixor, 1), (99, .iand, 1), (100, .ifCond .ne 7, 3), (103, .iconst 1, 1), (104, .goto 4, 3), (107, .iconst 0, 1), (108, .istore 6, 2), (110, .iinc 7 1, 3), (113, .goto (-68), 3), (116, .iload 6, 2), (118, .ifCond .eq 57, 3), (121, .aload_n 0, 1), (122, .getfield 46, 3), (125, .iload 4, 2), (127, .iconst 1, 1), (128, .iastore, 1), (129, .iconst 0, 1), (130, .istore 7, 2), (132, .iload 7, 2), (134, .aload_n 1, 1), (135, .getfield 115, 3), (138, .if_icmp .ge 37, 3), (141, .aload_n 0, 1), (142, .getfield 43, 3), (145, .iload 7, 2), (147, .iload 5, 2), (149, .iconst 1, 1), (150, .iload 7, 2), (152, .ishl, 1), (153, .iand, 1), (154, .ifCond .eq 7, 3), (157, .iconst 1, 1), (158, .goto 10, 3), (161, .aload_n 0, 1), (162, .getfield 43, 3), (165, .iload 7, 2), (167, .iaload, 1), (168, .iastore, 1), (169, .iinc 7 1, 3), (172, .goto (-40), 3), (175, .iinc 4 1, 3), (178, .goto (-175), 3), (181, .return_, 1)] = true := by decide +kernel
theorem cw_Frt_findRay {k : Cd} (h1 : kFrt_findRay.2.2.2.2.1 + 1 ≤ k.2.2.2.2.1) (h2 : 8 + (kFrt_findRay.2.2.1 + 11) + kFrt_findRay.2.2.2.2.2 ≤ k.2.2.2.2.2) : Cw k kFrt_findRay 3 := ⟨wcode_X4_findRay, wini_SplitProgram_Freight, ⟨by decide, by decide, by decide +kernel⟩, h1, h2⟩
def Frt_findRay_j108 (v0 : Nat) (v1 : Nat) (v2 : Int32) (v3 : Int32) (v4 : Int32) (v5 : Int32) (v6 : Int32) (v7 : Int32) (v8 : Int32) (t0 : Int32) (h : AHeap) : Option ((Int32 × Int32) ⊕ ((Int32 × Int32))) :=
  some (Sum.inl (t0, v7 + 1))
theorem Frt_findRay_j108_J {E : JE} {l : Launch} {G : GX} {r : Option Value} {h' : AHeap} (ok : JOK E l G kFrt_findRay 0 0 r h') (v0 : Nat) (v1 : Nat) (v2 : Int32) (v3 : Int32) (v4 : Int32) (v5 : Int32) (v6 : Int32) (v7 : Int32) (v8 : Int32) (t0 : Int32) (h : AHeap) {Y : (Int32 × Int32) ⊕ ((Int32 × Int32)) → Prop} (k1 : ∀ s' : Int32 × Int32, Y (.inl s') → JW E kFrt_findRay 45 [some (.ref v0), some (.ref v1), some (.int v2), some (.int v3), some (.int v4), some (.int v5), some (.int s'.1), some (.int s'.2), none] [] h 0 0) (kx116 : ∀ q : Int32 × Int32, Y (.inr q) → JW E kFrt_findRay 116 [some (.ref v0), some (.ref v1), some (.int v2), some (.int v3), some (.int v4), some (.int v5), some (.int q.1), some (.int q.2), none] [] h 0 0) : J E kFrt_findRay (Frt_findRay_j108 v0 v1 v2 v3 v4 v5 v6 v7 v8 t0 h) Y 108 [some (.ref v0), some (.ref v1), some (.int v2), some (.int v3), some (.int v4), some (.int v5), some (.int v6), some (.int v7), some (.int v8)] [.int t0] h 0 0 := by
  unfold Frt_findRay_j108
  refine J_istore (ls' := [some (.ref v0), some (.ref v1), some (.int v2), some (.int v3), some (.int v4), some (.int v5), some (.int t0), some (.int v7), some (.int v8)]) (pc' := 110) ok (dOf dX4_findRay 60 rfl) rfl (Nat.le_of_ble_eq_true rfl) rfl rfl ?_
  refine J_iinc (v := v7 + 1) (ls' := [some (.ref v0), some (.ref v1), some (.int v2), some (.int v3), some (.int v4), some (.int v5), some (.int t0), some (.int (v7 + 1)), some (.int v8)]) (pc' := 113) ok (dOf dX4_findRay 61 rfl) rfl rfl (by rfl) (Nat.le_of_ble_eq_true rfl) rfl rfl ?_
  refine J_goto (tgt := 45) ok (dOf dX4_findRay 62 rfl) (by decide) ?_
  refine J_weak (ls' := [some (.ref v0), some (.ref v1), some (.int v2), some (.int v3), some (.int v4), some (.int v5), some (.int t0), some (.int (v7 + 1)), none]) ⟨rfl, rfl, rfl, rfl, rfl, rfl, rfl, rfl, trivial⟩ ?_
  exact J_fin (k1 (t0, v7 + 1))
def Frt_findRay_j107 (v0 : Nat) (v1 : Nat) (v2 : Int32) (v3 : Int32) (v4 : Int32) (v5 : Int32) (v6 : Int32) (v7 : Int32) (v8 : Int32) (h : AHeap) : Option ((Int32 × Int32) ⊕ ((Int32 × Int32))) :=
  Frt_findRay_j108 v0 v1 v2 v3 v4 v5 v6 v7 v8 0 h
theorem Frt_findRay_j107_J {E : JE} {l : Launch} {G : GX} {r : Option Value} {h' : AHeap} (ok : JOK E l G kFrt_findRay 0 0 r h') (v0 : Nat) (v1 : Nat) (v2 : Int32) (v3 : Int32) (v4 : Int32) (v5 : Int32) (v6 : Int32) (v7 : Int32) (v8 : Int32) (h : AHeap) {Y : (Int32 × Int32) ⊕ ((Int32 × Int32)) → Prop} (k1 : ∀ s' : Int32 × Int32, Y (.inl s') → JW E kFrt_findRay 45 [some (.ref v0), some (.ref v1), some (.int v2), some (.int v3), some (.int v4), some (.int v5), some (.int s'.1), some (.int s'.2), none] [] h 0 0) (kx116 : ∀ q : Int32 × Int32, Y (.inr q) → JW E kFrt_findRay 116 [some (.ref v0), some (.ref v1), some (.int v2), some (.int v3), some (.int v4), some (.int v5), some (.int q.1), some (.int q.2), none] [] h 0 0) : J E kFrt_findRay (Frt_findRay_j107 v0 v1 v2 v3 v4 v5 v6 v7 v8 h) Y 107 [some (.ref v0), some (.ref v1), some (.int v2), some (.int v3), some (.int v4), some (.int v5), some (.int v6), some (.int v7), some (.int v8)] [] h 0 0 := by
  unfold Frt_findRay_j107
  refine J_iconst (v := 0) (pc' := 108) ok (dOf dX4_findRay 59 rfl) rfl (by decide) ?_
  exact Frt_findRay_j108_J ok v0 v1 v2 v3 v4 v5 v6 v7 v8 0 h k1 kx116
def Frt_findRay_j103 (v0 : Nat) (v1 : Nat) (v2 : Int32) (v3 : Int32) (v4 : Int32) (v5 : Int32) (v6 : Int32) (v7 : Int32) (v8 : Int32) (h : AHeap) : Option ((Int32 × Int32) ⊕ ((Int32 × Int32))) :=
  Frt_findRay_j108 v0 v1 v2 v3 v4 v5 v6 v7 v8 1 h
theorem Frt_findRay_j103_J {E : JE} {l : Launch} {G : GX} {r : Option Value} {h' : AHeap} (ok : JOK E l G kFrt_findRay 0 0 r h') (v0 : Nat) (v1 : Nat) (v2 : Int32) (v3 : Int32) (v4 : Int32) (v5 : Int32) (v6 : Int32) (v7 : Int32) (v8 : Int32) (h : AHeap) {Y : (Int32 × Int32) ⊕ ((Int32 × Int32)) → Prop} (k1 : ∀ s' : Int32 × Int32, Y (.inl s') → JW E kFrt_findRay 45 [some (.ref v0), some (.ref v1), some (.int v2), some (.int v3), some (.int v4), some (.int v5), some (.int s'.1), some (.int s'.2), none] [] h 0 0) (kx116 : ∀ q : Int32 × Int32, Y (.inr q) → JW E kFrt_findRay 116 [some (.ref v0), some (.ref v1), some (.int v2), some (.int v3), some (.int v4), some (.int v5), some (.int q.1), some (.int q.2), none] [] h 0 0) : J E kFrt_findRay (Frt_findRay_j103 v0 v1 v2 v3 v4 v5 v6 v7 v8 h) Y 103 [some (.ref v0), some (.ref v1), some (.int v2), some (.int v3), some (.int v4), some (.int v5), some (.int v6), some (.int v7), some (.int v8)] [] h 0 0 := by
  unfold Frt_findRay_j103
  refine J_iconst (v := 1) (pc' := 104) ok (dOf dX4_findRay 57 rfl) rfl (by decide) ?_
  refine J_goto (tgt := 108) ok (dOf dX4_findRay 58 rfl) (by decide) ?_
  exact Frt_findRay_j108_J ok v0 v1 v2 v3 v4 v5 v6 v7 v8 1 h k1 kx116
def Frt_findRay_j81 (v0 : Nat) (v1 : Nat) (v2 : Int32) (v3 : Int32) (v4 : Int32) (v5 : Int32) (v6 : Int32) (v7 : Int32) (t0 : Int32) (h : AHeap) : Option ((Int32 × Int32) ⊕ ((Int32 × Int32))) :=
  (if v6 = 0 then Frt_findRay_j107 v0 v1 v2 v3 v4 v5 v6 v7 t0 h else (if t0 = 0 then Frt_findRay_j103 v0 v1 v2 v3 v4 v5 v6 v7 t0 h else (if ¬ (v5 &&& (v7 ^^^ (-1))) = 0 then Frt_findRay_j107 v0 v1 v2 v3 v4 v5 v6 v7 t0 h else Frt_findRay_j103 v0 v1 v2 v3 v4 v5 v6 v7 t0 h)))
theorem Frt_findRay_j81_J {E : JE} {l : Launch} {G : GX} {r : Option Value} {h' : AHeap} (ok : JOK E l G kFrt_findRay 0 0 r h') (v0 : Nat) (v1 : Nat) (v2 : Int32) (v3 : Int32) (v4 : Int32) (v5 : Int32) (v6 : Int32) (v7 : Int32) (t0 : Int32) (h : AHeap) {Y : (Int32 × Int32) ⊕ ((Int32 × Int32)) → Prop} (k1 : ∀ s' : Int32 × Int32, Y (.inl s') → JW E kFrt_findRay 45 [some (.ref v0), some (.ref v1), some (.int v2), some (.int v3), some (.int v4), some (.int v5), some (.int s'.1), some (.int s'.2), none] [] h 0 0) (kx116 : ∀ q : Int32 × Int32, Y (.inr q) → JW E kFrt_findRay 116 [some (.ref v0), some (.ref v1), some (.int v2), some (.int v3), some (.int v4), some (.int v5), some (.int q.1), some (.int q.2), none] [] h 0 0) : J E kFrt_findRay (Frt_findRay_j81 v0 v1 v2 v3 v4 v5 v6 v7 t0 h) Y 81 [some (.ref v0), some (.ref v1), some (.int v2), some (.int v3), some (.int v4), some (.int v5), some (.int v6), some (.int v7), none] [.int t0] h 0 0 := by
  unfold Frt_findRay_j81
  refine J_istore (ls' := [some (.ref v0), some (.ref v1), some (.int v2), some (.int v3), some (.int v4), some (.int v5), some (.int v6), some (.int v7), some (.int t0)]) (pc' := 83) ok (dOf dX4_findRay 46 rfl) rfl (Nat.le_of_ble_eq_true rfl) rfl rfl ?_
  refine J_iload (pc' := 85) ok (dOf dX4_findRay 47 rfl) rfl rfl ?_
  refine J_if_eq (tgt := 107) (pc' := 88) ok (dOf dX4_findRay 48 rfl) rfl (by decide) ?_ ?_
  · exact Frt_findRay_j107_J ok v0 v1 v2 v3 v4 v5 v6 v7 t0 h k1 kx116
  · refine J_iload (pc' := 90) ok (dOf dX4_findRay 49 rfl) rfl rfl ?_
    refine J_if_eq (tgt := 103) (pc' := 93) ok (dOf dX4_findRay 50 rfl) rfl (by decide) ?_ ?_
    · exact Frt_findRay_j103_J ok v0 v1 v2 v3 v4 v5 v6 v7 t0 h k1 kx116
    · refine J_iload (pc' := 95) ok (dOf dX4_findRay 51 rfl) rfl rfl ?_
      refine J_iload (pc' := 97) ok (dOf dX4_findRay 52 rfl) rfl rfl ?_
      refine J_iconst (v := (-1)) (pc' := 98) ok (dOf dX4_findRay 53 rfl) rfl (by decide) ?_
      refine J_ixor (pc' := 99) ok (dOf dX4_findRay 54 rfl) rfl ?_
      refine J_iand (pc' := 100) ok (dOf dX4_findRay 55 rfl) rfl ?_
      refine J_if_ne (tgt := 107) (pc' := 103) ok (dOf dX4_findRay 56 rfl) rfl (by decide) ?_ ?_
      · exact Frt_findRay_j107_J ok v0 v1 v2 v3 v4 v5 v6 v7 t0 h k1 kx116
      · exact Frt_findRay_j103_J ok v0 v1 v2 v3 v4 v5 v6 v7 t0 h k1 kx116
def Frt_findRay_b45 (v0 : Nat) (v1 : Nat) (v2 : Int32) (v3 : Int32) (v4 : Int32) (v5 : Int32) (h : AHeap) (s : Int32 × Int32) : Option ((Int32 × Int32) ⊕ ((Int32 × Int32))) :=
  (if 16 ≤ s.2 then some (Sum.inr (s.1, s.2)) else (gfR h v0 4 2).bind fun a6 => (ald 0 h a6 ((v2 * 16) + s.2)).bind fun x7 => (gfR h v0 4 1).bind fun a8 => (ald 0 h a8 s.2).bind fun x9 => (if ¬ (x7 - x9) = v3 then Frt_findRay_j81 v0 v1 v2 v3 v4 v5 s.1 s.2 0 h else Frt_findRay_j81 v0 v1 v2 v3 v4 v5 s.1 s.2 1 h))
theorem Frt_findRay_b45_J {E : JE} {l : Launch} {G : GX} {r : Option Value} {h' : AHeap} (ok : JOK E l G kFrt_findRay 0 0 r h') (v0 : Nat) (v1 : Nat) (v2 : Int32) (v3 : Int32) (v4 : Int32) (v5 : Int32) (h : AHeap) {Y : (Int32 × Int32) ⊕ ((Int32 × Int32)) → Prop} (k1 : ∀ s' : Int32 × Int32, Y (.inl s') → JW E kFrt_findRay 45 [some (.ref v0), some (.ref v1), some (.int v2), some (.int v3), some (.int v4), some (.int v5), some (.int s'.1), some (.int s'.2), none] [] h 0 0) (kx116 : ∀ q : Int32 × Int32, Y (.inr q) → JW E kFrt_findRay 116 [some (.ref v0), some (.ref v1), some (.int v2), some (.int v3), some (.int v4), some (.int v5), some (.int q.1), some (.int q.2), none] [] h 0 0) (s : Int32 × Int32) : J E kFrt_findRay (Frt_findRay_b45 v0 v1 v2 v3 v4 v5 h s) Y 45 [some (.ref v0), some (.ref v1), some (.int v2), some (.int v3), some (.int v4), some (.int v5), some (.int s.1), some (.int s.2), none] [] h 0 0 := by
  unfold Frt_findRay_b45
  refine J_iload (pc' := 47) ok (dOf dX4_findRay 25 rfl) rfl rfl ?_
  refine J_bipush (v := 16) (pc' := 49) ok (dOf dX4_findRay 26 rfl) rfl (by decide) ?_
  refine J_icmp_ge (tgt := 116) (pc' := 52) ok (dOf dX4_findRay 27 rfl) rfl (by decide) ?_ ?_
  · exact J_fin (kx116 (s.1, s.2))
  · refine J_aload_n (pc' := 53) ok (dOf dX4_findRay 28 rfl) rfl rfl rfl ?_
    refine J_getR (ci := 4) (kf := 2) (C := RX4) (T := TX4) (N := 12) (pc' := 56) ok (dOf dX4_findRay 29 rfl) rfl (by decide) rfl (by decide) win_4 wfl_X4_18 (fun a6 => ?_)
    refine J_iload_n (pc' := 57) ok (dOf dX4_findRay 30 rfl) rfl rfl rfl ?_
    refine J_bipush (v := 16) (pc' := 59) ok (dOf dX4_findRay 31 rfl) rfl (by decide) ?_
    refine J_imul (pc' := 60) ok (dOf dX4_findRay 32 rfl) rfl ?_
    refine J_iload (pc' := 62) ok (dOf dX4_findRay 33 rfl) rfl rfl ?_
    refine J_iadd (pc' := 63) ok (dOf dX4_findRay 34 rfl) rfl ?_
    refine J_iald (pc' := 64) ok (dOf dX4_findRay 35 rfl) rfl (fun x7 => ?_)
    refine J_aload_n (pc' := 65) ok (dOf dX4_findRay 36 rfl) rfl rfl rfl ?_
    refine J_getR (ci := 4) (kf := 1) (C := RX4) (T := TX4) (N := 12) (pc' := 68) ok (dOf dX4_findRay 37 rfl) rfl (by decide) rfl (by decide) win_4 wfl_X4_15 (fun a8 => ?_)
    refine J_iload (pc' := 70) ok (dOf dX4_findRay 38 rfl) rfl rfl ?_
    refine J_iald (pc' := 71) ok (dOf dX4_findRay 39 rfl) rfl (fun x9 => ?_)
    refine J_isub (pc' := 72) ok (dOf dX4_findRay 40 rfl) rfl ?_
    refine J_iload_n (pc' := 73) ok (dOf dX4_findRay 41 rfl) rfl rfl rfl ?_
    refine J_icmp_ne (tgt := 80) (pc' := 76) ok (dOf dX4_findRay 42 rfl) rfl (by decide) ?_ ?_
    · refine J_iconst (v := 0) (pc' := 81) ok (dOf dX4_findRay 45 rfl) rfl (by decide) ?_
      exact Frt_findRay_j81_J ok v0 v1 v2 v3 v4 v5 s.1 s.2 0 h k1 kx116
    · refine J_iconst (v := 1) (pc' := 77) ok (dOf dX4_findRay 43 rfl) rfl (by decide) ?_
      refine J_goto (tgt := 81) ok (dOf dX4_findRay 44 rfl) (by decide) ?_
      exact Frt_findRay_j81_J ok v0 v1 v2 v3 v4 v5 s.1 s.2 1 h k1 kx116
def Frt_findRay_j175 (v0 : Nat) (v1 : Nat) (v2 : Int32) (v3 : Int32) (v4 : Int32) (v5 : Int32) (v6 : Int32) (v7 : Int32) (h : AHeap) : Option ((Int32 × AHeap) ⊕ ((Int32 × AHeap))) :=
  some (Sum.inl (v4 + 1, h))
theorem Frt_findRay_j175_J {E : JE} {l : Launch} {G : GX} {r : Option Value} {h' : AHeap} (ok : JOK E l G kFrt_findRay 0 0 r h') (v0 : Nat) (v1 : Nat) (v2 : Int32) (v3 : Int32) (v4 : Int32) (v5 : Int32) (v6 : Int32) (v7 : Int32) (h : AHeap) {Y : (Int32 × AHeap) ⊕ ((Int32 × AHeap)) → Prop} (k1 : ∀ s' : Int32 × AHeap, Y (.inl s') → JW E kFrt_findRay 3 [some (.ref v0), some (.ref v1), some (.int v2), some (.int v3), some (.int s'.1), none, none, none, none] [] s'.2 0 0) (kx181 : ∀ q : Int32 × AHeap, Y (.inr q) → JW E kFrt_findRay 181 [some (.ref v0), some (.ref v1), some (.int v2), some (.int v3), some (.int q.1), none, none, none, none] [] q.2 0 0) : J E kFrt_findRay (Frt_findRay_j175 v0 v1 v2 v3 v4 v5 v6 v7 h) Y 175 [some (.ref v0), some (.ref v1), some (.int v2), some (.int v3), some (.int v4), some (.int v5), some (.int v6), some (.int v7), none] [] h 0 0 := by
  unfold Frt_findRay_j175
  refine J_iinc (v := v4 + 1) (ls' := [some (.ref v0), some (.ref v1), some (.int v2), some (.int v3), some (.int (v4 + 1)), some (.int v5), some (.int v6), some (.int v7), none]) (pc' := 178) ok (dOf dX4_findRay 94 rfl) rfl rfl (by rfl) (Nat.le_of_ble_eq_true rfl) rfl rfl ?_
  refine J_goto (tgt := 3) ok (dOf dX4_findRay 95 rfl) (by decide) ?_
  refine J_weak (ls' := [some (.ref v0), some (.ref v1), some (.int v2), some (.int v3), some (.int (v4 + 1)), none, none, none, none]) ⟨rfl, rfl, rfl, rfl, rfl, trivial⟩ ?_
  exact J_fin (k1 (v4 + 1, h))
def Frt_findRay_j168 (v0 : Nat) (v1 : Nat) (v2 : Int32) (v3 : Int32) (v4 : Int32) (v5 : Int32) (v6 : Int32) (v7 : Int32) (t0 : Nat) (t1 : Int32) (t2 : Int32) (h : AHeap) : Option ((Int32 × AHeap) ⊕ ((Int32 × AHeap))) :=
  (ast 0 h t0 t1 t2).bind fun h16 => some (Sum.inl (v7 + 1, h16))
theorem Frt_findRay_j168_J {E : JE} {l : Launch} {G : GX} {r : Option Value} {h' : AHeap} (ok : JOK E l G kFrt_findRay 0 0 r h') (v0 : Nat) (v1 : Nat) (v2 : Int32) (v3 : Int32) (v4 : Int32) (v5 : Int32) (v6 : Int32) (v7 : Int32) (t0 : Nat) (t1 : Int32) (t2 : Int32) (h : AHeap) {Y : (Int32 × AHeap) ⊕ ((Int32 × AHeap)) → Prop} (k1 : ∀ s' : Int32 × AHeap, Y (.inl s') → JW E kFrt_findRay 132 [some (.ref v0), some (.ref v1), some (.int v2), some (.int v3), some (.int v4), some (.int v5), some (.int v6), some (.int s'.1), none] [] s'.2 0 0) (kx175 : ∀ q : Int32 × AHeap, Y (.inr q) → JW E kFrt_findRay 175 [some (.ref v0), some (.ref v1), some (.int v2), some (.int v3), some (.int v4), some (.int v5), some (.int v6), some (.int q.1), none] [] q.2 0 0) : J E kFrt_findRay (Frt_findRay_j168 v0 v1 v2 v3 v4 v5 v6 v7 t0 t1 t2 h) Y 168 [some (.ref v0), some (.ref v1), some (.int v2), some (.int v3), some (.int v4), some (.int v5), some (.int v6), some (.int v7), none] [.int t2, .int t1, .ref t0] h 0 0 := by
  unfold Frt_findRay_j168
  refine J_iast (pc' := 169) ok (dOf dX4_findRay 91 rfl) rfl (fun h16 _ => ?_)
  refine J_iinc (v := v7 + 1) (ls' := [some (.ref v0), some (.ref v1), some (.int v2), some (.int v3), some (.int v4), some (.int v5), some (.int v6), some (.int (v7 + 1)), none]) (pc' := 172) ok (dOf dX4_findRay 92 rfl) rfl rfl (by rfl) (Nat.le_of_ble_eq_true rfl) rfl rfl ?_
  refine J_goto (tgt := 132) ok (dOf dX4_findRay 93 rfl) (by decide) ?_
  exact J_fin (k1 (v7 + 1, h16))
def Frt_findRay_b132 (v0 : Nat) (v1 : Nat) (v2 : Int32) (v3 : Int32) (v4 : Int32) (v5 : Int32) (v6 : Int32) (s : Int32 × AHeap) : Option ((Int32 × AHeap) ⊕ ((Int32 × AHeap))) :=
  (gfI s.2 v1 6 0).bind fun x12 => (if x12 ≤ s.1 then some (Sum.inr (s.1, s.2)) else (gfR s.2 v0 4 10).bind fun a13 => (if (v5 &&& ((1 : Int32) <<< (s.1 &&& 31))) = 0 then (gfR s.2 v0 4 10).bind fun a14 => (ald 0 s.2 a14 s.1).bind fun x15 => Frt_findRay_j168 v0 v1 v2 v3 v4 v5 v6 s.1 a13 s.1 x15 s.2 else Frt_findRay_j168 v0 v1 v2 v3 v4 v5 v6 s.1 a13 s.1 1 s.2))
theorem Frt_findRay_b132_J {E : JE} {l : Launch} {G : GX} {r : Option Value} {h' : AHeap} (ok : JOK E l G kFrt_findRay 0 0 r h') (v0 : Nat) (v1 : Nat) (v2 : Int32) (v3 : Int32) (v4 : Int32) (v5 : Int32) (v6 : Int32) {Y : (Int32 × AHeap) ⊕ ((Int32 × AHeap)) → Prop} (k1 : ∀ s' : Int32 × AHeap, Y (.inl s') → JW E kFrt_findRay 132 [some (.ref v0), some (.ref v1), some (.int v2), some (.int v3), some (.int v4), some (.int v5), some (.int v6), some (.int s'.1), none] [] s'.2 0 0) (kx175 : ∀ q : Int32 × AHeap, Y (.inr q) → JW E kFrt_findRay 175 [some (.ref v0), some (.ref v1), some (.int v2), some (.int v3), some (.int v4), some (.int v5), some (.int v6), some (.int q.1), none] [] q.2 0 0) (s : Int32 × AHeap) : J E kFrt_findRay (Frt_findRay_b132 v0 v1 v2 v3 v4 v5 v6 s) Y 132 [some (.ref v0), some (.ref v1), some (.int v2), some (.int v3), some (.int v4), some (.int v5), some (.int v6), some (.int s.1), none] [] s.2 0 0 := by
  unfold Frt_findRay_b132
  refine J_iload (pc' := 134) ok (dOf dX4_findRay 72 rfl) rfl rfl ?_
  refine J_aload_n (pc' := 135) ok (dOf dX4_findRay 73 rfl) rfl rfl rfl ?_
  refine J_getI (ci := 6) (kf := 0) (C := RX6) (T := TX6) (N := 9) (pc' := 138) ok (dOf dX4_findRay 74 rfl) rfl (by decide) rfl (by decide) win_6 wfl_X4_115 (fun x12 => ?_)
  refine J_icmp_ge (tgt := 175) (pc' := 141) ok (dOf dX4_findRay 75 rfl) rfl (by decide) ?_ ?_
  · exact J_fin (kx175 (s.1, s.2))
  · refine J_aload_n (pc' := 142) ok (dOf dX4_findRay 76 rfl) rfl rfl rfl ?_
    refine J_getR (ci := 4) (kf := 10) (C := RX4) (T := TX4) (N := 12) (pc' := 145) ok (dOf dX4_findRay 77 rfl) rfl (by decide) rfl (by decide) win_4 wfl_X4_43 (fun a13 => ?_)
    refine J_iload (pc' := 147) ok (dOf dX4_findRay 78 rfl) rfl rfl ?_
    refine J_iload (pc' := 149) ok (dOf dX4_findRay 79 rfl) rfl rfl ?_
    refine J_iconst (v := 1) (pc' := 150) ok (dOf dX4_findRay 80 rfl) rfl (by decide) ?_
    refine J_iload (pc' := 152) ok (dOf dX4_findRay 81 rfl) rfl rfl ?_
    refine J_ishl (pc' := 153) ok (dOf dX4_findRay 82 rfl) rfl ?_
    refine J_iand (pc' := 154) ok (dOf dX4_findRay 83 rfl) rfl ?_
    refine J_if_eq (tgt := 161) (pc' := 157) ok (dOf dX4_findRay 84 rfl) rfl (by decide) ?_ ?_
    · refine J_aload_n (pc' := 162) ok (dOf dX4_findRay 87 rfl) rfl rfl rfl ?_
      refine J_getR (ci := 4) (kf := 10) (C := RX4) (T := TX4) (N := 12) (pc' := 165) ok (dOf dX4_findRay 88 rfl) rfl (by decide) rfl (by decide) win_4 wfl_X4_43 (fun a14 => ?_)
      refine J_iload (pc' := 167) ok (dOf dX4_findRay 89 rfl) rfl rfl ?_
      refine J_iald (pc' := 168) ok (dOf dX4_findRay 90 rfl) rfl (fun x15 => ?_)
      exact Frt_findRay_j168_J ok v0 v1 v2 v3 v4 v5 v6 s.1 a13 s.1 x15 s.2 k1 kx175
    · refine J_iconst (v := 1) (pc' := 158) ok (dOf dX4_findRay 85 rfl) rfl (by decide) ?_
      refine J_goto (tgt := 168) ok (dOf dX4_findRay 86 rfl) (by decide) ?_
      exact Frt_findRay_j168_J ok v0 v1 v2 v3 v4 v5 v6 s.1 a13 s.1 1 s.2 k1 kx175
def Frt_findRay_j116 (v0 : Nat) (v1 : Nat) (v2 : Int32) (v3 : Int32) (v4 : Int32) (v5 : Int32) (v6 : Int32) (v7 : Int32) (h : AHeap) : Option ((Int32 × AHeap) ⊕ ((Int32 × AHeap))) :=
  (if v6 = 0 then Frt_findRay_j175 v0 v1 v2 v3 v4 v5 v6 v7 h else (gfR h v0 4 11).bind fun a10 => (ast 0 h a10 v4 1).bind fun h11 => (iter (Frt_findRay_b132 v0 v1 v2 v3 v4 v5 v6) Lmax (0, h11)).bind (fun (q132 : Int32 × AHeap) => Frt_findRay_j175 v0 v1 v2 v3 v4 v5 v6 q132.1 q132.2))
theorem Frt_findRay_j116_J {E : JE} {l : Launch} {G : GX} {r : Option Value} {h' : AHeap} (ok : JOK E l G kFrt_findRay 0 0 r h') (v0 : Nat) (v1 : Nat) (v2 : Int32) (v3 : Int32) (v4 : Int32) (v5 : Int32) (v6 : Int32) (v7 : Int32) (h : AHeap) {Y : (Int32 × AHeap) ⊕ ((Int32 × AHeap)) → Prop} (k1 : ∀ s' : Int32 × AHeap, Y (.inl s') → JW E kFrt_findRay 3 [some (.ref v0), some (.ref v1), some (.int v2), some (.int v3), some (.int s'.1), none, none, none, none] [] s'.2 0 0) (kx181 : ∀ q : Int32 × AHeap, Y (.inr q) → JW E kFrt_findRay 181 [some (.ref v0), some (.ref v1), some (.int v2), some (.int v3), some (.int q.1), none, none, none, none] [] q.2 0 0) : J E kFrt_findRay (Frt_findRay_j116 v0 v1 v2 v3 v4 v5 v6 v7 h) Y 116 [some (.ref v0), some (.ref v1), some (.int v2), some (.int v3), some (.int v4), some (.int v5), some (.int v6), some (.int v7), none] [] h 0 0 := by
  unfold Frt_findRay_j116
  refine J_iload (pc' := 118) ok (dOf dX4_findRay 63 rfl) rfl rfl ?_
  refine J_if_eq (tgt := 175) (pc' := 121) ok (dOf dX4_findRay 64 rfl) rfl (by decide) ?_ ?_
  · exact Frt_findRay_j175_J ok v0 v1 v2 v3 v4 v5 v6 v7 h k1 kx181
  · refine J_aload_n (pc' := 122) ok (dOf dX4_findRay 65 rfl) rfl rfl rfl ?_
    refine J_getR (ci := 4) (kf := 11) (C := RX4) (T := TX4) (N := 12) (pc' := 125) ok (dOf dX4_findRay 66 rfl) rfl (by decide) rfl (by decide) win_4 wfl_X4_46 (fun a10 => ?_)
    refine J_iload (pc' := 127) ok (dOf dX4_findRay 67 rfl) rfl rfl ?_
    refine J_iconst (v := 1) (pc' := 128) ok (dOf dX4_findRay 68 rfl) rfl (by decide) ?_
    refine J_iast (pc' := 129) ok (dOf dX4_findRay 69 rfl) rfl (fun h11 _ => ?_)
    refine J_iconst (v := 0) (pc' := 130) ok (dOf dX4_findRay 70 rfl) rfl (by decide) ?_
    refine J_istore (ls' := [some (.ref v0), some (.ref v1), some (.int v2), some (.int v3), some (.int v4), some (.int v5), some (.int v6), some (.int 0), none]) (pc' := 132) ok (dOf dX4_findRay 71 rfl) rfl (Nat.le_of_ble_eq_true rfl) rfl rfl ?_
    refine J_iter (lf := fun z132 => [some (.ref v0), some (.ref v1), some (.int v2), some (.int v3), some (.int v4), some (.int v5), some (.int v6), some (.int z132.1), none]) (sf := fun _ => []) (hf := fun z132 => z132.2) (px := (fun (q132 : Int32 × AHeap) => 175)) (lx := (fun (q132 : Int32 × AHeap) => [some (.ref v0), some (.ref v1), some (.int v2), some (.int v3), some (.int v4), some (.int v5), some (.int v6), some (.int q132.1), none])) (sx := (fun (q132 : Int32 × AHeap) => [])) (hx := (fun (q132 : Int32 × AHeap) => q132.2)) (fun Y2 z132 m1 m2 => Frt_findRay_b132_J ok v0 v1 v2 v3 v4 v5 v6 m1 m2 z132) (fun q132 => ?_) Lmax _
    exact Frt_findRay_j175_J ok v0 v1 v2 v3 v4 v5 v6 q132.1 q132.2 k1 kx181
def Frt_findRay_j40 (v0 : Nat) (v1 : Nat) (v2 : Int32) (v3 : Int32) (v4 : Int32) (v5 : Int32) (t0 : Int32) (h : AHeap) : Option ((Int32 × AHeap) ⊕ ((Int32 × AHeap))) :=
  (iter (Frt_findRay_b45 v0 v1 v2 v3 v4 v5 h) Lmax (t0, 0)).bind (fun (q45 : Int32 × Int32) => Frt_findRay_j116 v0 v1 v2 v3 v4 v5 q45.1 q45.2 h)
theorem Frt_findRay_j40_J {E : JE} {l : Launch} {G : GX} {r : Option Value} {h' : AHeap} (ok : JOK E l G kFrt_findRay 0 0 r h') (v0 : Nat) (v1 : Nat) (v2 : Int32) (v3 : Int32) (v4 : Int32) (v5 : Int32) (t0 : Int32) (h : AHeap) {Y : (Int32 × AHeap) ⊕ ((Int32 × AHeap)) → Prop} (k1 : ∀ s' : Int32 × AHeap, Y (.inl s') → JW E kFrt_findRay 3 [some (.ref v0), some (.ref v1), some (.int v2), some (.int v3), some (.int s'.1), none, none, none, none] [] s'.2 0 0) (kx181 : ∀ q : Int32 × AHeap, Y (.inr q) → JW E kFrt_findRay 181 [some (.ref v0), some (.ref v1), some (.int v2), some (.int v3), some (.int q.1), none, none, none, none] [] q.2 0 0) : J E kFrt_findRay (Frt_findRay_j40 v0 v1 v2 v3 v4 v5 t0 h) Y 40 [some (.ref v0), some (.ref v1), some (.int v2), some (.int v3), some (.int v4), some (.int v5), none, none, none] [.int t0] h 0 0 := by
  unfold Frt_findRay_j40
  refine J_istore (ls' := [some (.ref v0), some (.ref v1), some (.int v2), some (.int v3), some (.int v4), some (.int v5), some (.int t0), none, none]) (pc' := 42) ok (dOf dX4_findRay 22 rfl) rfl (Nat.le_of_ble_eq_true rfl) rfl rfl ?_
  refine J_iconst (v := 0) (pc' := 43) ok (dOf dX4_findRay 23 rfl) rfl (by decide) ?_
  refine J_istore (ls' := [some (.ref v0), some (.ref v1), some (.int v2), some (.int v3), some (.int v4), some (.int v5), some (.int t0), some (.int 0), none]) (pc' := 45) ok (dOf dX4_findRay 24 rfl) rfl (Nat.le_of_ble_eq_true rfl) rfl rfl ?_
  refine J_iter (lf := fun z45 => [some (.ref v0), some (.ref v1), some (.int v2), some (.int v3), some (.int v4), some (.int v5), some (.int z45.1), some (.int z45.2), none]) (sf := fun _ => []) (hf := fun z45 => h) (px := (fun (q45 : Int32 × Int32) => 116)) (lx := (fun (q45 : Int32 × Int32) => [some (.ref v0), some (.ref v1), some (.int v2), some (.int v3), some (.int v4), some (.int v5), some (.int q45.1), some (.int q45.2), none])) (sx := (fun (q45 : Int32 × Int32) => [])) (hx := (fun (q45 : Int32 × Int32) => h)) (fun Y2 z45 m1 m2 => Frt_findRay_b45_J ok v0 v1 v2 v3 v4 v5 h m1 m2 z45) (fun q45 => ?_) Lmax _
  exact Frt_findRay_j116_J ok v0 v1 v2 v3 v4 v5 q45.1 q45.2 h k1 kx181
def Frt_findRay_b3 (v0 : Nat) (v1 : Nat) (v2 : Int32) (v3 : Int32) (s : Int32 × AHeap) : Option ((Int32 × AHeap) ⊕ ((Int32 × AHeap))) :=
  (gfI s.2 v1 6 1).bind fun x1 => (if x1 ≤ s.1 then some (Sum.inr (s.1, s.2)) else (chk s.2 v1 6).bind fun _ => bnd2 (Prog_plantsOf v1 s.1 s.2) fun x3 h2 => (gfR h2 v1 6 8).bind fun a4 => (ald 0 h2 a4 ((v2 * 6) + s.1)).bind fun x5 => (if x5 ≤ 0 then Frt_findRay_j40 v0 v1 v2 v3 s.1 x3 0 h2 else Frt_findRay_j40 v0 v1 v2 v3 s.1 x3 1 h2))
theorem Frt_findRay_b3_J {E : JE} {l : Launch} {G : GX} {r : Option Value} {h' : AHeap} (ok : JOK E l G kFrt_findRay 0 0 r h') (v0 : Nat) (v1 : Nat) (v2 : Int32) (v3 : Int32) {Y : (Int32 × AHeap) ⊕ ((Int32 × AHeap)) → Prop} (k1 : ∀ s' : Int32 × AHeap, Y (.inl s') → JW E kFrt_findRay 3 [some (.ref v0), some (.ref v1), some (.int v2), some (.int v3), some (.int s'.1), none, none, none, none] [] s'.2 0 0) (kx181 : ∀ q : Int32 × AHeap, Y (.inr q) → JW E kFrt_findRay 181 [some (.ref v0), some (.ref v1), some (.int v2), some (.int v3), some (.int q.1), none, none, none, none] [] q.2 0 0) (s : Int32 × AHeap) : J E kFrt_findRay (Frt_findRay_b3 v0 v1 v2 v3 s) Y 3 [some (.ref v0), some (.ref v1), some (.int v2), some (.int v3), some (.int s.1), none, none, none, none] [] s.2 0 0 := by
  unfold Frt_findRay_b3
  refine J_iload (pc' := 5) ok (dOf dX4_findRay 2 rfl) rfl rfl ?_
  refine J_aload_n (pc' := 6) ok (dOf dX4_findRay 3 rfl) rfl rfl rfl ?_
  refine J_getI (ci := 6) (kf := 1) (C := RX6) (T := TX6) (N := 9) (pc' := 9) ok (dOf dX4_findRay 4 rfl) rfl (by decide) rfl (by decide) win_6 wfl_X4_49 (fun x1 => ?_)
  refine J_icmp_ge (tgt := 181) (pc' := 12) ok (dOf dX4_findRay 5 rfl) rfl (by decide) ?_ ?_
  · exact J_fin (kx181 (s.1, s.2))
  · refine J_aload_n (pc' := 13) ok (dOf dX4_findRay 6 rfl) rfl rfl rfl ?_
    refine J_iload (pc' := 15) ok (dOf dX4_findRay 7 rfl) rfl rfl ?_
    refine J_callVi (k2 := kProg_plantsOf) (ci := 6) (T := TX6) (N := 9) (as := [.int s.1]) (pc' := 18) ok (dOf dX4_findRay 8 rfl) rfl (cw_Prog_plantsOf (by decide) (by decide)) wml_X4_55 winst_X6_plantsOf wsel_X6_plantsOf rfl ⟨Nat.le_refl 0, Nat.le_refl 0⟩ (Nat.le_of_ble_eq_true rfl) rfl (fun _ _ hf => t_Prog_plantsOf hf) (fun x3 h2 => ?_)
    refine J_istore (ls' := [some (.ref v0), some (.ref v1), some (.int v2), some (.int v3), some (.int s.1), some (.int x3), none, none, none]) (pc' := 20) ok (dOf dX4_findRay 9 rfl) rfl (Nat.le_of_ble_eq_true rfl) rfl rfl ?_
    refine J_aload_n (pc' := 21) ok (dOf dX4_findRay 10 rfl) rfl rfl rfl ?_
    refine J_getR (ci := 6) (kf := 8) (C := RX6) (T := TX6) (N := 9) (pc' := 24) ok (dOf dX4_findRay 11 rfl) rfl (by decide) rfl (by decide) win_6 wfl_X4_59 (fun a4 => ?_)
    refine J_iload_n (pc' := 25) ok (dOf dX4_findRay 12 rfl) rfl rfl rfl ?_
    refine J_bipush (v := 6) (pc' := 27) ok (dOf dX4_findRay 13 rfl) rfl (by decide) ?_
    refine J_imul (pc' := 28) ok (dOf dX4_findRay 14 rfl) rfl ?_
    refine J_iload (pc' := 30) ok (dOf dX4_findRay 15 rfl) rfl rfl ?_
    refine J_iadd (pc' := 31) ok (dOf dX4_findRay 16 rfl) rfl ?_
    refine J_iald (pc' := 32) ok (dOf dX4_findRay 17 rfl) rfl (fun x5 => ?_)
    refine J_if_le (tgt := 39) (pc' := 35) ok (dOf dX4_findRay 18 rfl) rfl (by decide) ?_ ?_
    · refine J_iconst (v := 0) (pc' := 40) ok (dOf dX4_findRay 21 rfl) rfl (by decide) ?_
      exact Frt_findRay_j40_J ok v0 v1 v2 v3 s.1 x3 0 h2 k1 kx181
    · refine J_iconst (v := 1) (pc' := 36) ok (dOf dX4_findRay 19 rfl) rfl (by decide) ?_
      refine J_goto (tgt := 40) ok (dOf dX4_findRay 20 rfl) (by decide) ?_
      exact Frt_findRay_j40_J ok v0 v1 v2 v3 s.1 x3 1 h2 k1 kx181
def Frt_findRay_j181 (v0 : Nat) (v1 : Nat) (v2 : Int32) (v3 : Int32) (v4 : Int32) (h : AHeap) : Option (Unit × AHeap) :=
  some ((), h)
theorem Frt_findRay_j181_J {E : JE} {l : Launch} {G : GX} {h' : AHeap} (ok : JOK E l G kFrt_findRay 0 0 none h') (v0 : Nat) (v1 : Nat) (v2 : Int32) (v3 : Int32) (v4 : Int32) (h : AHeap) : J E kFrt_findRay (Frt_findRay_j181 v0 v1 v2 v3 v4 h) (fun z => z = ((), h')) 181 [some (.ref v0), some (.ref v1), some (.int v2), some (.int v3), some (.int v4), none, none, none, none] [] h 0 0 := by
  unfold Frt_findRay_j181
  exact J_vreturn ok (dOf dX4_findRay 96 rfl) rfl (Eq.refl 0) (Nat.le_refl 0)
def Frt_findRay (v0 : Nat) (v1 : Nat) (v2 : Int32) (v3 : Int32) (h : AHeap) : Option (Unit × AHeap) :=
  (iter (Frt_findRay_b3 v0 v1 v2 v3) Lmax (0, h)).bind (fun (q3 : Int32 × AHeap) => Frt_findRay_j181 v0 v1 v2 v3 q3.1 q3.2)
theorem t_Frt_findRay {l : Launch} {G : GX} {v0 : Nat} {v1 : Nat} {v2 : Int32} {v3 : Int32} {h : AHeap} {h1 : AHeap} (hf : Frt_findRay v0 v1 v2 v3 h = some ((), h1)) : CT l G kFrt_findRay 0 0 [.ref v0, .ref v1, .int v2, .int v3] h none h1 := by
  refine CT_of (ls := [some (.ref v0), some (.ref v1), some (.int v2), some (.int v3), none, none, none, none, none]) (Z := fun z => z = ((), h1)) (by decide +kernel) (Nat.le_of_ble_eq_true rfl) hf rfl ⟨rfl, rfl, rfl, rfl, trivial⟩ (fun E ok => ?_)
  unfold Frt_findRay
  refine J_iconst (v := 0) (pc' := 1) ok (dOf dX4_findRay 0 rfl) rfl (by decide) ?_
  refine J_istore (ls' := [some (.ref v0), some (.ref v1), some (.int v2), some (.int v3), some (.int 0), none, none, none, none]) (pc' := 3) ok (dOf dX4_findRay 1 rfl) rfl (Nat.le_of_ble_eq_true rfl) rfl rfl ?_
  refine J_iter (lf := fun z3 => [some (.ref v0), some (.ref v1), some (.int v2), some (.int v3), some (.int z3.1), none, none, none, none]) (sf := fun _ => []) (hf := fun z3 => z3.2) (px := (fun (q3 : Int32 × AHeap) => 181)) (lx := (fun (q3 : Int32 × AHeap) => [some (.ref v0), some (.ref v1), some (.int v2), some (.int v3), some (.int q3.1), none, none, none, none])) (sx := (fun (q3 : Int32 × AHeap) => [])) (hx := (fun (q3 : Int32 × AHeap) => q3.2)) (fun Y2 z3 m1 m2 => Frt_findRay_b3_J ok v0 v1 v2 v3 m1 m2 z3) (fun q3 => ?_) Lmax _
  exact Frt_findRay_j181_J ok v0 v1 v2 v3 q3.1 q3.2
-- X4_greatestRate
abbrev kFrt_greatestRate : Cd := (yX4_greatestRate, cX4_greatestRate, 6, (some .int), 1, 21)
theorem dX4_greatestRate : dcheck cX4_greatestRate [(0, .ldc 114, 2), (2, .istore_n 3, 1), (3, .iconst 0, 1), (4, .istore 4, 2), (6, .iload 4, 2), (8, .aload_n 1, 1), (9, .getfield 115, 3), (12, .if_icmp .ge 44, 3), (15, .aload_n 1, 1), (16, .getfield 101, 3), (19, .iload 4, 2), (21, .bipush 6, 2), (23, .imul, 1), (24, .iload_n 2, 1), (25, .iadd, 1), (26, .iaload, 1), (27, .istore 5, 2), (29, .iload 5, 2), (31, .iconst (-1), 1), (32, .if_icmp .eq 18, 3), (35, .iload_n 3, 1), (36, .aload_n 0, 1), (37, .getfield 43, 3), (40, .iload 4, 2), (42, .iaload, 1), (43, .iload 5, 2), (45, .iadd, 1), (46, .invokestatic 118, 3), (49, .istore_n 3, 1), (50, .iinc 4 1, 3), (53, .goto (-47), 3), (56, .iload_n 3, 1), (57, .ldc 114, 2), (59, .if_icmp .ne 7, 3), (62, .iconst 0, 1), (63, .goto 4, 3), (66, .iload_n 3, 1), (67, .ireturn, 1)] = true := by decide +kernel
theorem cw_Frt_greatestRate {k : Cd} (h1 : kFrt_greatestRate.2.2.2.2.1 + 1 ≤ k.2.2.2.2.1) (h2 : 8 + (kFrt_greatestRate.2.2.1 + 11) + kFrt_greatestRate.2.2.2.2.2 ≤ k.2.2.2.2.2) : Cw k kFrt_greatestRate 2 := ⟨wcode_X4_greatestRate, wini_SplitProgram_Freight, ⟨by decide, by decide, by decide +kernel⟩, h1, h2⟩
def Frt_greatestRate_j50 (v0 : Nat) (v1 : Nat) (v2 : Int32) (v3 : Int32) (v4 : Int32) (v5 : Int32) (h : AHeap) : Option ((Int32 × Int32) ⊕ ((Int32 × Int32))) :=
  some (Sum.inl (v3, v4 + 1))
theorem Frt_greatestRate_j50_J {E : JE} {l : Launch} {G : GX} {r : Option Value} {h' : AHeap} (ok : JOK E l G kFrt_greatestRate 0 0 r h') (v0 : Nat) (v1 : Nat) (v2 : Int32) (v3 : Int32) (v4 : Int32) (v5 : Int32) (h : AHeap) {Y : (Int32 × Int32) ⊕ ((Int32 × Int32)) → Prop} (k1 : ∀ s' : Int32 × Int32, Y (.inl s') → JW E kFrt_greatestRate 6 [some (.ref v0), some (.ref v1), some (.int v2), some (.int s'.1), some (.int s'.2), none] [] h 0 0) (kx56 : ∀ q : Int32 × Int32, Y (.inr q) → JW E kFrt_greatestRate 56 [some (.ref v0), some (.ref v1), some (.int v2), some (.int q.1), some (.int q.2), none] [] h 0 0) : J E kFrt_greatestRate (Frt_greatestRate_j50 v0 v1 v2 v3 v4 v5 h) Y 50 [some (.ref v0), some (.ref v1), some (.int v2), some (.int v3), some (.int v4), some (.int v5)] [] h 0 0 := by
  unfold Frt_greatestRate_j50
  refine J_iinc (v := v4 + 1) (ls' := [some (.ref v0), some (.ref v1), some (.int v2), some (.int v3), some (.int (v4 + 1)), some (.int v5)]) (pc' := 53) ok (dOf dX4_greatestRate 29 rfl) rfl rfl (by rfl) (Nat.le_of_ble_eq_true rfl) rfl rfl ?_
  refine J_goto (tgt := 6) ok (dOf dX4_greatestRate 30 rfl) (by decide) ?_
  refine J_weak (ls' := [some (.ref v0), some (.ref v1), some (.int v2), some (.int v3), some (.int (v4 + 1)), none]) ⟨rfl, rfl, rfl, rfl, rfl, trivial⟩ ?_
  exact J_fin (k1 (v3, v4 + 1))
def Frt_greatestRate_b6 (v0 : Nat) (v1 : Nat) (v2 : Int32) (h : AHeap) (s : Int32 × Int32) : Option ((Int32 × Int32) ⊕ ((Int32 × Int32))) :=
  (gfI h v1 6 0).bind fun x1 => (if x1 ≤ s.2 then some (Sum.inr (s.1, s.2)) else (gfR h v1 6 6).bind fun a2 => (ald 0 h a2 ((s.2 * 6) + v2)).bind fun x3 => (if x3 = (-1) then Frt_greatestRate_j50 v0 v1 v2 s.1 s.2 x3 h else (gfR h v0 4 10).bind fun a4 => (ald 0 h a4 s.2).bind fun x5 => Frt_greatestRate_j50 v0 v1 v2 (if (x5 + x3) < s.1 then (x5 + x3) else s.1) s.2 x3 h))
theorem Frt_greatestRate_b6_J {E : JE} {l : Launch} {G : GX} {r : Option Value} {h' : AHeap} (ok : JOK E l G kFrt_greatestRate 0 0 r h') (v0 : Nat) (v1 : Nat) (v2 : Int32) (h : AHeap) {Y : (Int32 × Int32) ⊕ ((Int32 × Int32)) → Prop} (k1 : ∀ s' : Int32 × Int32, Y (.inl s') → JW E kFrt_greatestRate 6 [some (.ref v0), some (.ref v1), some (.int v2), some (.int s'.1), some (.int s'.2), none] [] h 0 0) (kx56 : ∀ q : Int32 × Int32, Y (.inr q) → JW E kFrt_greatestRate 56 [some (.ref v0), some (.ref v1), some (.int v2), some (.int q.1), some (.int q.2), none] [] h 0 0) (s : Int32 × Int32) : J E kFrt_greatestRate (Frt_greatestRate_b6 v0 v1 v2 h s) Y 6 [some (.ref v0), some (.ref v1), some (.int v2), some (.int s.1), some (.int s.2), none] [] h 0 0 := by
  unfold Frt_greatestRate_b6
  refine J_iload (pc' := 8) ok (dOf dX4_greatestRate 4 rfl) rfl rfl ?_
  refine J_aload_n (pc' := 9) ok (dOf dX4_greatestRate 5 rfl) rfl rfl rfl ?_
  refine J_getI (ci := 6) (kf := 0) (C := RX6) (T := TX6) (N := 9) (pc' := 12) ok (dOf dX4_greatestRate 6 rfl) rfl (by decide) rfl (by decide) win_6 wfl_X4_115 (fun x1 => ?_)
  refine J_icmp_ge (tgt := 56) (pc' := 15) ok (dOf dX4_greatestRate 7 rfl) rfl (by decide) ?_ ?_
  · exact J_fin (kx56 (s.1, s.2))
  · refine J_aload_n (pc' := 16) ok (dOf dX4_greatestRate 8 rfl) rfl rfl rfl ?_
    refine J_getR (ci := 6) (kf := 6) (C := RX6) (T := TX6) (N := 9) (pc' := 19) ok (dOf dX4_greatestRate 9 rfl) rfl (by decide) rfl (by decide) win_6 wfl_X4_101 (fun a2 => ?_)
    refine J_iload (pc' := 21) ok (dOf dX4_greatestRate 10 rfl) rfl rfl ?_
    refine J_bipush (v := 6) (pc' := 23) ok (dOf dX4_greatestRate 11 rfl) rfl (by decide) ?_
    refine J_imul (pc' := 24) ok (dOf dX4_greatestRate 12 rfl) rfl ?_
    refine J_iload_n (pc' := 25) ok (dOf dX4_greatestRate 13 rfl) rfl rfl rfl ?_
    refine J_iadd (pc' := 26) ok (dOf dX4_greatestRate 14 rfl) rfl ?_
    refine J_iald (pc' := 27) ok (dOf dX4_greatestRate 15 rfl) rfl (fun x3 => ?_)
    refine J_istore (ls' := [some (.ref v0), some (.ref v1), some (.int v2), some (.int s.1), some (.int s.2), some (.int x3)]) (pc' := 29) ok (dOf dX4_greatestRate 16 rfl) rfl (Nat.le_of_ble_eq_true rfl) rfl rfl ?_
    refine J_iload (pc' := 31) ok (dOf dX4_greatestRate 17 rfl) rfl rfl ?_
    refine J_iconst (v := (-1)) (pc' := 32) ok (dOf dX4_greatestRate 18 rfl) rfl (by decide) ?_
    refine J_icmp_eq (tgt := 50) (pc' := 35) ok (dOf dX4_greatestRate 19 rfl) rfl (by decide) ?_ ?_
    · exact Frt_greatestRate_j50_J ok v0 v1 v2 s.1 s.2 x3 h k1 kx56
    · refine J_iload_n (pc' := 36) ok (dOf dX4_greatestRate 20 rfl) rfl rfl rfl ?_
      refine J_aload_n (pc' := 37) ok (dOf dX4_greatestRate 21 rfl) rfl rfl rfl ?_
      refine J_getR (ci := 4) (kf := 10) (C := RX4) (T := TX4) (N := 12) (pc' := 40) ok (dOf dX4_greatestRate 22 rfl) rfl (by decide) rfl (by decide) win_4 wfl_X4_43 (fun a4 => ?_)
      refine J_iload (pc' := 42) ok (dOf dX4_greatestRate 23 rfl) rfl rfl ?_
      refine J_iald (pc' := 43) ok (dOf dX4_greatestRate 24 rfl) rfl (fun x5 => ?_)
      refine J_iload (pc' := 45) ok (dOf dX4_greatestRate 25 rfl) rfl rfl ?_
      refine J_iadd (pc' := 46) ok (dOf dX4_greatestRate 26 rfl) rfl ?_
      refine J_mmin (pc' := 49) ok (dOf dX4_greatestRate 27 rfl) rfl wml_X4_118 wstat_J9_min_7cf53 wini_java_lang_Math wcode_J9_min_7cf53 (Nat.le_of_ble_eq_true rfl) (Nat.le_of_ble_eq_true rfl) (Nat.le_refl 0) (Nat.le_refl 0) ?_
      refine J_istore_n (ls' := [some (.ref v0), some (.ref v1), some (.int v2), some (.int (if (x5 + x3) < s.1 then (x5 + x3) else s.1)), some (.int s.2), some (.int x3)]) (pc' := 50) ok (dOf dX4_greatestRate 28 rfl) rfl rfl (Nat.le_of_ble_eq_true rfl) rfl rfl ?_
      exact Frt_greatestRate_j50_J ok v0 v1 v2 (if (x5 + x3) < s.1 then (x5 + x3) else s.1) s.2 x3 h k1 kx56
def Frt_greatestRate_j67 (v0 : Nat) (v1 : Nat) (v2 : Int32) (v3 : Int32) (v4 : Int32) (t0 : Int32) (h : AHeap) : Option (Int32 × AHeap) :=
  some (t0, h)
theorem Frt_greatestRate_j67_J {E : JE} {l : Launch} {G : GX} {v : Int32} {h' : AHeap} (ok : JOK E l G kFrt_greatestRate 0 0 (some (.int v)) h') (v0 : Nat) (v1 : Nat) (v2 : Int32) (v3 : Int32) (v4 : Int32) (t0 : Int32) (h : AHeap) : J E kFrt_greatestRate (Frt_greatestRate_j67 v0 v1 v2 v3 v4 t0 h) (fun z => z = (v, h')) 67 [some (.ref v0), some (.ref v1), some (.int v2), some (.int v3), some (.int v4), none] [.int t0] h 0 0 := by
  unfold Frt_greatestRate_j67
  exact J_ireturn ok (dOf dX4_greatestRate 37 rfl) rfl (Eq.refl 0) (Nat.le_refl 0)
def Frt_greatestRate_j56 (v0 : Nat) (v1 : Nat) (v2 : Int32) (v3 : Int32) (v4 : Int32) (h : AHeap) : Option (Int32 × AHeap) :=
  (if ¬ v3 = 1000000 then Frt_greatestRate_j67 v0 v1 v2 v3 v4 v3 h else Frt_greatestRate_j67 v0 v1 v2 v3 v4 0 h)
theorem Frt_greatestRate_j56_J {E : JE} {l : Launch} {G : GX} {v : Int32} {h' : AHeap} (ok : JOK E l G kFrt_greatestRate 0 0 (some (.int v)) h') (v0 : Nat) (v1 : Nat) (v2 : Int32) (v3 : Int32) (v4 : Int32) (h : AHeap) : J E kFrt_greatestRate (Frt_greatestRate_j56 v0 v1 v2 v3 v4 h) (fun z => z = (v, h')) 56 [some (.ref v0), some (.ref v1), some (.int v2), some (.int v3), some (.int v4), none] [] h 0 0 := by
  unfold Frt_greatestRate_j56
  refine J_iload_n (pc' := 57) ok (dOf dX4_greatestRate 31 rfl) rfl rfl rfl ?_
  refine J_ldc (v := 1000000) (pc' := 59) ok (dOf dX4_greatestRate 32 rfl) rfl wcon_X4_114 ?_
  refine J_icmp_ne (tgt := 66) (pc' := 62) ok (dOf dX4_greatestRate 33 rfl) rfl (by decide) ?_ ?_
  · refine J_iload_n (pc' := 67) ok (dOf dX4_greatestRate 36 rfl) rfl rfl rfl ?_
    exact Frt_greatestRate_j67_J ok v0 v1 v2 v3 v4 v3 h
  · refine J_iconst (v := 0) (pc' := 63) ok (dOf dX4_greatestRate 34 rfl) rfl (by decide) ?_
    refine J_goto (tgt := 67) ok (dOf dX4_greatestRate 35 rfl) (by decide) ?_
    exact Frt_greatestRate_j67_J ok v0 v1 v2 v3 v4 0 h
def Frt_greatestRate (v0 : Nat) (v1 : Nat) (v2 : Int32) (h : AHeap) : Option (Int32 × AHeap) :=
  (iter (Frt_greatestRate_b6 v0 v1 v2 h) Lmax (1000000, 0)).bind (fun (q6 : Int32 × Int32) => Frt_greatestRate_j56 v0 v1 v2 q6.1 q6.2 h)
theorem t_Frt_greatestRate {l : Launch} {G : GX} {v0 : Nat} {v1 : Nat} {v2 : Int32} {h : AHeap} {v : Int32} {h1 : AHeap} (hf : Frt_greatestRate v0 v1 v2 h = some (v, h1)) : CT l G kFrt_greatestRate 0 0 [.ref v0, .ref v1, .int v2] h (some (.int v)) h1 := by
  refine CT_of (ls := [some (.ref v0), some (.ref v1), some (.int v2), none, none, none]) (Z := fun z => z = (v, h1)) (by decide +kernel) (Nat.le_of_ble_eq_true rfl) hf rfl ⟨rfl, rfl, rfl, trivial⟩ (fun E ok => ?_)
  unfold Frt_greatestRate
  refine J_ldc (v := 1000000) (pc' := 2) ok (dOf dX4_greatestRate 0 rfl) rfl wcon_X4_114 ?_
  refine J_istore_n (ls' := [some (.ref v0), some (.ref v1), some (.int v2), some (.int 1000000), none, none]) (pc' := 3) ok (dOf dX4_greatestRate 1 rfl) rfl rfl (Nat.le_of_ble_eq_true rfl) rfl rfl ?_
  refine J_iconst (v := 0) (pc' := 4) ok (dOf dX4_greatestRate 2 rfl) rfl (by decide) ?_
  refine J_istore (ls' := [some (.ref v0), some (.ref v1), some (.int v2), some (.int 1000000), some (.int 0), none]) (pc' := 6) ok (dOf dX4_greatestRate 3 rfl) rfl (Nat.le_of_ble_eq_true rfl) rfl rfl ?_
  refine J_iter (lf := fun z6 => [some (.ref v0), some (.ref v1), some (.int v2), some (.int z6.1), some (.int z6.2), none]) (sf := fun _ => []) (hf := fun z6 => h) (px := (fun (q6 : Int32 × Int32) => 56)) (lx := (fun (q6 : Int32 × Int32) => [some (.ref v0), some (.ref v1), some (.int v2), some (.int q6.1), some (.int q6.2), none])) (sx := (fun (q6 : Int32 × Int32) => [])) (hx := (fun (q6 : Int32 × Int32) => h)) (fun Y2 z6 m1 m2 => Frt_greatestRate_b6_J ok v0 v1 v2 h m1 m2 z6) (fun q6 => ?_) Lmax _
  exact Frt_greatestRate_j56_J ok v0 v1 v2 q6.1 q6.2 h
-- X4_findPoint
abbrev kFrt_findPoint : Cd := (yX4_findPoint, cX4_findPoint, 7, none, 2, 50)
theorem dX4_findPoint : dcheck cX4_findPoint [(0, .aload_n 0, 1), (1, .aload_n 1, 1), (2, .invokevirtual 107, 3), (5, .iconst 1, 1), (6, .istore_n 2, 1), (7, .iconst 0, 1), (8, .istore_n 3, 1), (9, .iload_n 3, 1), (10, .iconst 4, 1), (11, .if_icmp .gt 105, 3), (14, .iload_n 2, 1), (15, .ifCond .eq 101, 3), (18, .iconst 0, 1), (19, .istore_n 2, 1), (20, .iconst 0, 1), (21, .istore 4, 2), (23, .iload 4, 2), (25, .iconst 4, 1), (26, .if_icmp .ge 84, 3), (29, .iconst 0, 1), (30, .istore 5, 2), (32, .iload 5, 2), (34, .iconst 4, 1), (35, .if_icmp .ge 69, 3), (38, .aload_n 0, 1), (39, .getfield 31, 3), (42, .iload 4, 2), (44, .iconst 4, 1), (45, .imul, 1), (46, .iload 5, 2), (48, .iadd, 1), (49, .iaload, 1), (50, .istore 6, 2), (52, .iload 6, 2), (54, .ldc 114, 2), (56, .if_icmp .ge 42, 3), (59, .aload_n 0, 1), (60, .getfield 43, 3), (63, .iload 5, 2), (65, .iaload, 1), (66, .iload 6, 2), (68, .isub, 1), (69, .aload_n 0, 1), (70, .getfield 43, 3), (73, .iload 4, 2), (75, .iaload, 1), (76, .if_icmp .le 22, 3), (79, .aload_n 0, 1), (80, .getfield 43, 3), (83, .iload 4, 2), (85, .aload_n 0, 1), (86, .getfield 43, 3), (89, .iload 5, 2), (91, .iaload, 1), (92, .iload 6, 2), (94, .isub, 1), (95, .iastore, 1), (96, .iconst 1, 1), (97, .istore_n 2, 1), (98, .iinc 5 1, 3), (101, .goto (-69), 3), (104, .iinc 4 1, 3), (107, .goto (-84), 3), (110, .iinc 3 1, 3), (113, .goto (-104), 3), (116, .iconst 0, 1), (117, .istore_n 3, 1), (118, .iload_n 3, 1), (119, .aload_n 1, 1), (120, .getfield 49, 3), (123, .if_icmp .ge 21, 3), (126, .aload_n 0, 1), (127, .getfield 46, 3), (130, .iload_n 3, 1), (131, .aload_n 0, 1), (132, .aload_n 1, 1), (133, .iload_n 3, 1), (134, .invokevirtual 135, 3), (137, .iastore, 1), (138, .iinc 3 1, 3), (141, .goto (-23), 3), (144, .return_, 1)] = true := by decide +kernel
theorem cw_Frt_findPoint {k : Cd} (h1 : kFrt_findPoint.2.2.2.2.1 + 1 ≤ k.2.2.2.2.1) (h2 : 8 + (kFrt_findPoint.2.2.1 + 11) + kFrt_findPoint.2.2.2.2.2 ≤ k.2.2.2.2.2) : Cw k kFrt_findPoint 1 := ⟨wcode_X4_findPoint, wini_SplitProgram_Freight, ⟨by decide, by decide, by decide +kernel⟩, h1, h2⟩
def Frt_findPoint_j98 (v0 : Nat) (v1 : Nat) (v2 : Int32) (v3 : Int32) (v4 : Int32) (v5 : Int32) (v6 : Int32) (h : AHeap) : Option ((Int32 × Int32 × AHeap) ⊕ ((Int32 × Int32 × AHeap))) :=
  some (Sum.inl (v2, v5 + 1, h))
theorem Frt_findPoint_j98_J {E : JE} {l : Launch} {G : GX} {r : Option Value} {h' : AHeap} (ok : JOK E l G kFrt_findPoint 0 0 r h') (v0 : Nat) (v1 : Nat) (v2 : Int32) (v3 : Int32) (v4 : Int32) (v5 : Int32) (v6 : Int32) (h : AHeap) {Y : (Int32 × Int32 × AHeap) ⊕ ((Int32 × Int32 × AHeap)) → Prop} (k1 : ∀ s' : Int32 × Int32 × AHeap, Y (.inl s') → JW E kFrt_findPoint 32 [some (.ref v0), some (.ref v1), some (.int s'.1), some (.int v3), some (.int v4), some (.int s'.2.1), none] [] s'.2.2 0 0) (kx104 : ∀ q : Int32 × Int32 × AHeap, Y (.inr q) → JW E kFrt_findPoint 104 [some (.ref v0), some (.ref v1), some (.int q.1), some (.int v3), some (.int v4), some (.int q.2.1), none] [] q.2.2 0 0) : J E kFrt_findPoint (Frt_findPoint_j98 v0 v1 v2 v3 v4 v5 v6 h) Y 98 [some (.ref v0), some (.ref v1), some (.int v2), some (.int v3), some (.int v4), some (.int v5), some (.int v6)] [] h 0 0 := by
  unfold Frt_findPoint_j98
  refine J_iinc (v := v5 + 1) (ls' := [some (.ref v0), some (.ref v1), some (.int v2), some (.int v3), some (.int v4), some (.int (v5 + 1)), some (.int v6)]) (pc' := 101) ok (dOf dX4_findPoint 59 rfl) rfl rfl (by rfl) (Nat.le_of_ble_eq_true rfl) rfl rfl ?_
  refine J_goto (tgt := 32) ok (dOf dX4_findPoint 60 rfl) (by decide) ?_
  refine J_weak (ls' := [some (.ref v0), some (.ref v1), some (.int v2), some (.int v3), some (.int v4), some (.int (v5 + 1)), none]) ⟨rfl, rfl, rfl, rfl, rfl, rfl, trivial⟩ ?_
  exact J_fin (k1 (v2, v5 + 1, h))
def Frt_findPoint_b32 (v0 : Nat) (v1 : Nat) (v3 : Int32) (v4 : Int32) (s : Int32 × Int32 × AHeap) : Option ((Int32 × Int32 × AHeap) ⊕ ((Int32 × Int32 × AHeap))) :=
  (if 4 ≤ s.2.1 then some (Sum.inr (s.1, s.2.1, s.2.2)) else (gfR s.2.2 v0 4 6).bind fun a2 => (ald 0 s.2.2 a2 ((v4 * 4) + s.2.1)).bind fun x3 => (if 1000000 ≤ x3 then Frt_findPoint_j98 v0 v1 s.1 v3 v4 s.2.1 x3 s.2.2 else (gfR s.2.2 v0 4 10).bind fun a4 => (ald 0 s.2.2 a4 s.2.1).bind fun x5 => (gfR s.2.2 v0 4 10).bind fun a6 => (ald 0 s.2.2 a6 v4).bind fun x7 => (if (x5 - x3) ≤ x7 then Frt_findPoint_j98 v0 v1 s.1 v3 v4 s.2.1 x3 s.2.2 else (gfR s.2.2 v0 4 10).bind fun a8 => (gfR s.2.2 v0 4 10).bind fun a9 => (ald 0 s.2.2 a9 s.2.1).bind fun x10 => (ast 0 s.2.2 a8 v4 (x10 - x3)).bind fun h11 => Frt_findPoint_j98 v0 v1 1 v3 v4 s.2.1 x3 h11)))
theorem Frt_findPoint_b32_J {E : JE} {l : Launch} {G : GX} {r : Option Value} {h' : AHeap} (ok : JOK E l G kFrt_findPoint 0 0 r h') (v0 : Nat) (v1 : Nat) (v3 : Int32) (v4 : Int32) {Y : (Int32 × Int32 × AHeap) ⊕ ((Int32 × Int32 × AHeap)) → Prop} (k1 : ∀ s' : Int32 × Int32 × AHeap, Y (.inl s') → JW E kFrt_findPoint 32 [some (.ref v0), some (.ref v1), some (.int s'.1), some (.int v3), some (.int v4), some (.int s'.2.1), none] [] s'.2.2 0 0) (kx104 : ∀ q : Int32 × Int32 × AHeap, Y (.inr q) → JW E kFrt_findPoint 104 [some (.ref v0), some (.ref v1), some (.int q.1), some (.int v3), some (.int v4), some (.int q.2.1), none] [] q.2.2 0 0) (s : Int32 × Int32 × AHeap) : J E kFrt_findPoint (Frt_findPoint_b32 v0 v1 v3 v4 s) Y 32 [some (.ref v0), some (.ref v1), some (.int s.1), some (.int v3), some (.int v4), some (.int s.2.1), none] [] s.2.2 0 0 := by
  unfold Frt_findPoint_b32
  refine J_iload (pc' := 34) ok (dOf dX4_findPoint 21 rfl) rfl rfl ?_
  refine J_iconst (v := 4) (pc' := 35) ok (dOf dX4_findPoint 22 rfl) rfl (by decide) ?_
  refine J_icmp_ge (tgt := 104) (pc' := 38) ok (dOf dX4_findPoint 23 rfl) rfl (by decide) ?_ ?_
  · exact J_fin (kx104 (s.1, s.2.1, s.2.2))
  · refine J_aload_n (pc' := 39) ok (dOf dX4_findPoint 24 rfl) rfl rfl rfl ?_
    refine J_getR (ci := 4) (kf := 6) (C := RX4) (T := TX4) (N := 12) (pc' := 42) ok (dOf dX4_findPoint 25 rfl) rfl (by decide) rfl (by decide) win_4 wfl_X4_31 (fun a2 => ?_)
    refine J_iload (pc' := 44) ok (dOf dX4_findPoint 26 rfl) rfl rfl ?_
    refine J_iconst (v := 4) (pc' := 45) ok (dOf dX4_findPoint 27 rfl) rfl (by decide) ?_
    refine J_imul (pc' := 46) ok (dOf dX4_findPoint 28 rfl) rfl ?_
    refine J_iload (pc' := 48) ok (dOf dX4_findPoint 29 rfl) rfl rfl ?_
    refine J_iadd (pc' := 49) ok (dOf dX4_findPoint 30 rfl) rfl ?_
    refine J_iald (pc' := 50) ok (dOf dX4_findPoint 31 rfl) rfl (fun x3 => ?_)
    refine J_istore (ls' := [some (.ref v0), some (.ref v1), some (.int s.1), some (.int v3), some (.int v4), some (.int s.2.1), some (.int x3)]) (pc' := 52) ok (dOf dX4_findPoint 32 rfl) rfl (Nat.le_of_ble_eq_true rfl) rfl rfl ?_
    refine J_iload (pc' := 54) ok (dOf dX4_findPoint 33 rfl) rfl rfl ?_
    refine J_ldc (v := 1000000) (pc' := 56) ok (dOf dX4_findPoint 34 rfl) rfl wcon_X4_114 ?_
    refine J_icmp_ge (tgt := 98) (pc' := 59) ok (dOf dX4_findPoint 35 rfl) rfl (by decide) ?_ ?_
    · exact Frt_findPoint_j98_J ok v0 v1 s.1 v3 v4 s.2.1 x3 s.2.2 k1 kx104
    · refine J_aload_n (pc' := 60) ok (dOf dX4_findPoint 36 rfl) rfl rfl rfl ?_
      refine J_getR (ci := 4) (kf := 10) (C := RX4) (T := TX4) (N := 12) (pc' := 63) ok (dOf dX4_findPoint 37 rfl) rfl (by decide) rfl (by decide) win_4 wfl_X4_43 (fun a4 => ?_)
      refine J_iload (pc' := 65) ok (dOf dX4_findPoint 38 rfl) rfl rfl ?_
      refine J_iald (pc' := 66) ok (dOf dX4_findPoint 39 rfl) rfl (fun x5 => ?_)
      refine J_iload (pc' := 68) ok (dOf dX4_findPoint 40 rfl) rfl rfl ?_
      refine J_isub (pc' := 69) ok (dOf dX4_findPoint 41 rfl) rfl ?_
      refine J_aload_n (pc' := 70) ok (dOf dX4_findPoint 42 rfl) rfl rfl rfl ?_
      refine J_getR (ci := 4) (kf := 10) (C := RX4) (T := TX4) (N := 12) (pc' := 73) ok (dOf dX4_findPoint 43 rfl) rfl (by decide) rfl (by decide) win_4 wfl_X4_43 (fun a6 => ?_)
      refine J_iload (pc' := 75) ok (dOf dX4_findPoint 44 rfl) rfl rfl ?_
      refine J_iald (pc' := 76) ok (dOf dX4_findPoint 45 rfl) rfl (fun x7 => ?_)
      refine J_icmp_le (tgt := 98) (pc' := 79) ok (dOf dX4_findPoint 46 rfl) rfl (by decide) ?_ ?_
      · exact Frt_findPoint_j98_J ok v0 v1 s.1 v3 v4 s.2.1 x3 s.2.2 k1 kx104
      · refine J_aload_n (pc' := 80) ok (dOf dX4_findPoint 47 rfl) rfl rfl rfl ?_
        refine J_getR (ci := 4) (kf := 10) (C := RX4) (T := TX4) (N := 12) (pc' := 83) ok (dOf dX4_findPoint 48 rfl) rfl (by decide) rfl (by decide) win_4 wfl_X4_43 (fun a8 => ?_)
        refine J_iload (pc' := 85) ok (dOf dX4_findPoint 49 rfl) rfl rfl ?_
        refine J_aload_n (pc' := 86) ok (dOf dX4_findPoint 50 rfl) rfl rfl rfl ?_
        refine J_getR (ci := 4) (kf := 10) (C := RX4) (T := TX4) (N := 12) (pc' := 89) ok (dOf dX4_findPoint 51 rfl) rfl (by decide) rfl (by decide) win_4 wfl_X4_43 (fun a9 => ?_)
        refine J_iload (pc' := 91) ok (dOf dX4_findPoint 52 rfl) rfl rfl ?_
        refine J_iald (pc' := 92) ok (dOf dX4_findPoint 53 rfl) rfl (fun x10 => ?_)
        refine J_iload (pc' := 94) ok (dOf dX4_findPoint 54 rfl) rfl rfl ?_
        refine J_isub (pc' := 95) ok (dOf dX4_findPoint 55 rfl) rfl ?_
        refine J_iast (pc' := 96) ok (dOf dX4_findPoint 56 rfl) rfl (fun h11 _ => ?_)
        refine J_iconst (v := 1) (pc' := 97) ok (dOf dX4_findPoint 57 rfl) rfl (by decide) ?_
        refine J_istore_n (ls' := [some (.ref v0), some (.ref v1), some (.int 1), some (.int v3), some (.int v4), some (.int s.2.1), some (.int x3)]) (pc' := 98) ok (dOf dX4_findPoint 58 rfl) rfl rfl (Nat.le_of_ble_eq_true rfl) rfl rfl ?_
        exact Frt_findPoint_j98_J ok v0 v1 1 v3 v4 s.2.1 x3 h11 k1 kx104
def Frt_findPoint_j104 (v0 : Nat) (v1 : Nat) (v2 : Int32) (v3 : Int32) (v4 : Int32) (v5 : Int32) (h : AHeap) : Option ((Int32 × Int32 × AHeap) ⊕ ((Int32 × Int32 × AHeap))) :=
  some (Sum.inl (v2, v4 + 1, h))
theorem Frt_findPoint_j104_J {E : JE} {l : Launch} {G : GX} {r : Option Value} {h' : AHeap} (ok : JOK E l G kFrt_findPoint 0 0 r h') (v0 : Nat) (v1 : Nat) (v2 : Int32) (v3 : Int32) (v4 : Int32) (v5 : Int32) (h : AHeap) {Y : (Int32 × Int32 × AHeap) ⊕ ((Int32 × Int32 × AHeap)) → Prop} (k1 : ∀ s' : Int32 × Int32 × AHeap, Y (.inl s') → JW E kFrt_findPoint 23 [some (.ref v0), some (.ref v1), some (.int s'.1), some (.int v3), some (.int s'.2.1), none, none] [] s'.2.2 0 0) (kx110 : ∀ q : Int32 × Int32 × AHeap, Y (.inr q) → JW E kFrt_findPoint 110 [some (.ref v0), some (.ref v1), some (.int q.1), some (.int v3), some (.int q.2.1), none, none] [] q.2.2 0 0) : J E kFrt_findPoint (Frt_findPoint_j104 v0 v1 v2 v3 v4 v5 h) Y 104 [some (.ref v0), some (.ref v1), some (.int v2), some (.int v3), some (.int v4), some (.int v5), none] [] h 0 0 := by
  unfold Frt_findPoint_j104
  refine J_iinc (v := v4 + 1) (ls' := [some (.ref v0), some (.ref v1), some (.int v2), some (.int v3), some (.int (v4 + 1)), some (.int v5), none]) (pc' := 107) ok (dOf dX4_findPoint 61 rfl) rfl rfl (by rfl) (Nat.le_of_ble_eq_true rfl) rfl rfl ?_
  refine J_goto (tgt := 23) ok (dOf dX4_findPoint 62 rfl) (by decide) ?_
  refine J_weak (ls' := [some (.ref v0), some (.ref v1), some (.int v2), some (.int v3), some (.int (v4 + 1)), none, none]) ⟨rfl, rfl, rfl, rfl, rfl, trivial⟩ ?_
  exact J_fin (k1 (v2, v4 + 1, h))
def Frt_findPoint_b23 (v0 : Nat) (v1 : Nat) (v3 : Int32) (s : Int32 × Int32 × AHeap) : Option ((Int32 × Int32 × AHeap) ⊕ ((Int32 × Int32 × AHeap))) :=
  (if 4 ≤ s.2.1 then some (Sum.inr (s.1, s.2.1, s.2.2)) else (iter (Frt_findPoint_b32 v0 v1 v3 s.2.1) Lmax (s.1, 0, s.2.2)).bind (fun (q32 : Int32 × Int32 × AHeap) => Frt_findPoint_j104 v0 v1 q32.1 v3 s.2.1 q32.2.1 q32.2.2))
theorem Frt_findPoint_b23_J {E : JE} {l : Launch} {G : GX} {r : Option Value} {h' : AHeap} (ok : JOK E l G kFrt_findPoint 0 0 r h') (v0 : Nat) (v1 : Nat) (v3 : Int32) {Y : (Int32 × Int32 × AHeap) ⊕ ((Int32 × Int32 × AHeap)) → Prop} (k1 : ∀ s' : Int32 × Int32 × AHeap, Y (.inl s') → JW E kFrt_findPoint 23 [some (.ref v0), some (.ref v1), some (.int s'.1), some (.int v3), some (.int s'.2.1), none, none] [] s'.2.2 0 0) (kx110 : ∀ q : Int32 × Int32 × AHeap, Y (.inr q) → JW E kFrt_findPoint 110 [some (.ref v0), some (.ref v1), some (.int q.1), some (.int v3), some (.int q.2.1), none, none] [] q.2.2 0 0) (s : Int32 × Int32 × AHeap) : J E kFrt_findPoint (Frt_findPoint_b23 v0 v1 v3 s) Y 23 [some (.ref v0), some (.ref v1), some (.int s.1), some (.int v3), some (.int s.2.1), none, none] [] s.2.2 0 0 := by
  unfold Frt_findPoint_b23
  refine J_iload (pc' := 25) ok (dOf dX4_findPoint 16 rfl) rfl rfl ?_
  refine J_iconst (v := 4) (pc' := 26) ok (dOf dX4_findPoint 17 rfl) rfl (by decide) ?_
  refine J_icmp_ge (tgt := 110) (pc' := 29) ok (dOf dX4_findPoint 18 rfl) rfl (by decide) ?_ ?_
  · exact J_fin (kx110 (s.1, s.2.1, s.2.2))
  · refine J_iconst (v := 0) (pc' := 30) ok (dOf dX4_findPoint 19 rfl) rfl (by decide) ?_
    refine J_istore (ls' := [some (.ref v0), some (.ref v1), some (.int s.1), some (.int v3), some (.int s.2.1), some (.int 0), none]) (pc' := 32) ok (dOf dX4_findPoint 20 rfl) rfl (Nat.le_of_ble_eq_true rfl) rfl rfl ?_
    refine J_iter (lf := fun z32 => [some (.ref v0), some (.ref v1), some (.int z32.1), some (.int v3), some (.int s.2.1), some (.int z32.2.1), none]) (sf := fun _ => []) (hf := fun z32 => z32.2.2) (px := (fun (q32 : Int32 × Int32 × AHeap) => 104)) (lx := (fun (q32 : Int32 × Int32 × AHeap) => [some (.ref v0), some (.ref v1), some (.int q32.1), some (.int v3), some (.int s.2.1), some (.int q32.2.1), none])) (sx := (fun (q32 : Int32 × Int32 × AHeap) => [])) (hx := (fun (q32 : Int32 × Int32 × AHeap) => q32.2.2)) (fun Y2 z32 m1 m2 => Frt_findPoint_b32_J ok v0 v1 v3 s.2.1 m1 m2 z32) (fun q32 => ?_) Lmax _
    exact Frt_findPoint_j104_J ok v0 v1 q32.1 v3 s.2.1 q32.2.1 q32.2.2 k1 kx110
def Frt_findPoint_j110 (v0 : Nat) (v1 : Nat) (v2 : Int32) (v3 : Int32) (v4 : Int32) (h : AHeap) : Option ((Int32 × Int32 × AHeap) ⊕ ((Int32 × Int32 × AHeap))) :=
  some (Sum.inl (v2, v3 + 1, h))
theorem Frt_findPoint_j110_J {E : JE} {l : Launch} {G : GX} {r : Option Value} {h' : AHeap} (ok : JOK E l G kFrt_findPoint 0 0 r h') (v0 : Nat) (v1 : Nat) (v2 : Int32) (v3 : Int32) (v4 : Int32) (h : AHeap) {Y : (Int32 × Int32 × AHeap) ⊕ ((Int32 × Int32 × AHeap)) → Prop} (k1 : ∀ s' : Int32 × Int32 × AHeap, Y (.inl s') → JW E kFrt_findPoint 9 [some (.ref v0), some (.ref v1), some (.int s'.1), some (.int s'.2.1), none, none, none] [] s'.2.2 0 0) (kx116 : ∀ q : Int32 × Int32 × AHeap, Y (.inr q) → JW E kFrt_findPoint 116 [some (.ref v0), some (.ref v1), some (.int q.1), some (.int q.2.1), none, none, none] [] q.2.2 0 0) : J E kFrt_findPoint (Frt_findPoint_j110 v0 v1 v2 v3 v4 h) Y 110 [some (.ref v0), some (.ref v1), some (.int v2), some (.int v3), some (.int v4), none, none] [] h 0 0 := by
  unfold Frt_findPoint_j110
  refine J_iinc (v := v3 + 1) (ls' := [some (.ref v0), some (.ref v1), some (.int v2), some (.int (v3 + 1)), some (.int v4), none, none]) (pc' := 113) ok (dOf dX4_findPoint 63 rfl) rfl rfl (by rfl) (Nat.le_of_ble_eq_true rfl) rfl rfl ?_
  refine J_goto (tgt := 9) ok (dOf dX4_findPoint 64 rfl) (by decide) ?_
  refine J_weak (ls' := [some (.ref v0), some (.ref v1), some (.int v2), some (.int (v3 + 1)), none, none, none]) ⟨rfl, rfl, rfl, rfl, trivial⟩ ?_
  exact J_fin (k1 (v2, v3 + 1, h))
def Frt_findPoint_b9 (v0 : Nat) (v1 : Nat) (s : Int32 × Int32 × AHeap) : Option ((Int32 × Int32 × AHeap) ⊕ ((Int32 × Int32 × AHeap))) :=
  (if 4 < s.2.1 then some (Sum.inr (s.1, s.2.1, s.2.2)) else (if s.1 = 0 then some (Sum.inr (s.1, s.2.1, s.2.2)) else (iter (Frt_findPoint_b23 v0 v1 s.2.1) Lmax (0, 0, s.2.2)).bind (fun (q23 : Int32 × Int32 × AHeap) => Frt_findPoint_j110 v0 v1 q23.1 s.2.1 q23.2.1 q23.2.2)))
theorem Frt_findPoint_b9_J {E : JE} {l : Launch} {G : GX} {r : Option Value} {h' : AHeap} (ok : JOK E l G kFrt_findPoint 0 0 r h') (v0 : Nat) (v1 : Nat) {Y : (Int32 × Int32 × AHeap) ⊕ ((Int32 × Int32 × AHeap)) → Prop} (k1 : ∀ s' : Int32 × Int32 × AHeap, Y (.inl s') → JW E kFrt_findPoint 9 [some (.ref v0), some (.ref v1), some (.int s'.1), some (.int s'.2.1), none, none, none] [] s'.2.2 0 0) (kx116 : ∀ q : Int32 × Int32 × AHeap, Y (.inr q) → JW E kFrt_findPoint 116 [some (.ref v0), some (.ref v1), some (.int q.1), some (.int q.2.1), none, none, none] [] q.2.2 0 0) (s : Int32 × Int32 × AHeap) : J E kFrt_findPoint (Frt_findPoint_b9 v0 v1 s) Y 9 [some (.ref v0), some (.ref v1), some (.int s.1), some (.int s.2.1), none, none, none] [] s.2.2 0 0 := by
  unfold Frt_findPoint_b9
  refine J_iload_n (pc' := 10) ok (dOf dX4_findPoint 7 rfl) rfl rfl rfl ?_
  refine J_iconst (v := 4) (pc' := 11) ok (dOf dX4_findPoint 8 rfl) rfl (by decide) ?_
  refine J_icmp_gt (tgt := 116) (pc' := 14) ok (dOf dX4_findPoint 9 rfl) rfl (by decide) ?_ ?_
  · exact J_fin (kx116 (s.1, s.2.1, s.2.2))
  · refine J_iload_n (pc' := 15) ok (dOf dX4_findPoint 10 rfl) rfl rfl rfl ?_
    refine J_if_eq (tgt := 116) (pc' := 18) ok (dOf dX4_findPoint 11 rfl) rfl (by decide) ?_ ?_
    · exact J_fin (kx116 (s.1, s.2.1, s.2.2))
    · refine J_iconst (v := 0) (pc' := 19) ok (dOf dX4_findPoint 12 rfl) rfl (by decide) ?_
      refine J_istore_n (ls' := [some (.ref v0), some (.ref v1), some (.int 0), some (.int s.2.1), none, none, none]) (pc' := 20) ok (dOf dX4_findPoint 13 rfl) rfl rfl (Nat.le_of_ble_eq_true rfl) rfl rfl ?_
      refine J_iconst (v := 0) (pc' := 21) ok (dOf dX4_findPoint 14 rfl) rfl (by decide) ?_
      refine J_istore (ls' := [some (.ref v0), some (.ref v1), some (.int 0), some (.int s.2.1), some (.int 0), none, none]) (pc' := 23) ok (dOf dX4_findPoint 15 rfl) rfl (Nat.le_of_ble_eq_true rfl) rfl rfl ?_
      refine J_iter (lf := fun z23 => [some (.ref v0), some (.ref v1), some (.int z23.1), some (.int s.2.1), some (.int z23.2.1), none, none]) (sf := fun _ => []) (hf := fun z23 => z23.2.2) (px := (fun (q23 : Int32 × Int32 × AHeap) => 110)) (lx := (fun (q23 : Int32 × Int32 × AHeap) => [some (.ref v0), some (.ref v1), some (.int q23.1), some (.int s.2.1), some (.int q23.2.1), none, none])) (sx := (fun (q23 : Int32 × Int32 × AHeap) => [])) (hx := (fun (q23 : Int32 × Int32 × AHeap) => q23.2.2)) (fun Y2 z23 m1 m2 => Frt_findPoint_b23_J ok v0 v1 s.2.1 m1 m2 z23) (fun q23 => ?_) Lmax _
      exact Frt_findPoint_j110_J ok v0 v1 q23.1 s.2.1 q23.2.1 q23.2.2 k1 kx116
def Frt_findPoint_b118 (v0 : Nat) (v1 : Nat) (v2 : Int32) (s : Int32 × AHeap) : Option ((Int32 × AHeap) ⊕ ((Int32 × AHeap))) :=
  (gfI s.2 v1 6 1).bind fun x12 => (if x12 ≤ s.1 then some (Sum.inr (s.1, s.2)) else (gfR s.2 v0 4 11).bind fun a13 => (chk s.2 v0 4).bind fun _ => bnd2 (Frt_greatestRate v0 v1 s.1 s.2) fun x15 h14 => (ast 0 h14 a13 s.1 x15).bind fun h16 => some (Sum.inl (s.1 + 1, h16)))
theorem Frt_findPoint_b118_J {E : JE} {l : Launch} {G : GX} {r : Option Value} {h' : AHeap} (ok : JOK E l G kFrt_findPoint 0 0 r h') (v0 : Nat) (v1 : Nat) (v2 : Int32) {Y : (Int32 × AHeap) ⊕ ((Int32 × AHeap)) → Prop} (k1 : ∀ s' : Int32 × AHeap, Y (.inl s') → JW E kFrt_findPoint 118 [some (.ref v0), some (.ref v1), some (.int v2), some (.int s'.1), none, none, none] [] s'.2 0 0) (kx144 : ∀ q : Int32 × AHeap, Y (.inr q) → JW E kFrt_findPoint 144 [some (.ref v0), some (.ref v1), some (.int v2), some (.int q.1), none, none, none] [] q.2 0 0) (s : Int32 × AHeap) : J E kFrt_findPoint (Frt_findPoint_b118 v0 v1 v2 s) Y 118 [some (.ref v0), some (.ref v1), some (.int v2), some (.int s.1), none, none, none] [] s.2 0 0 := by
  unfold Frt_findPoint_b118
  refine J_iload_n (pc' := 119) ok (dOf dX4_findPoint 67 rfl) rfl rfl rfl ?_
  refine J_aload_n (pc' := 120) ok (dOf dX4_findPoint 68 rfl) rfl rfl rfl ?_
  refine J_getI (ci := 6) (kf := 1) (C := RX6) (T := TX6) (N := 9) (pc' := 123) ok (dOf dX4_findPoint 69 rfl) rfl (by decide) rfl (by decide) win_6 wfl_X4_49 (fun x12 => ?_)
  refine J_icmp_ge (tgt := 144) (pc' := 126) ok (dOf dX4_findPoint 70 rfl) rfl (by decide) ?_ ?_
  · exact J_fin (kx144 (s.1, s.2))
  · refine J_aload_n (pc' := 127) ok (dOf dX4_findPoint 71 rfl) rfl rfl rfl ?_
    refine J_getR (ci := 4) (kf := 11) (C := RX4) (T := TX4) (N := 12) (pc' := 130) ok (dOf dX4_findPoint 72 rfl) rfl (by decide) rfl (by decide) win_4 wfl_X4_46 (fun a13 => ?_)
    refine J_iload_n (pc' := 131) ok (dOf dX4_findPoint 73 rfl) rfl rfl rfl ?_
    refine J_aload_n (pc' := 132) ok (dOf dX4_findPoint 74 rfl) rfl rfl rfl ?_
    refine J_aload_n (pc' := 133) ok (dOf dX4_findPoint 75 rfl) rfl rfl rfl ?_
    refine J_iload_n (pc' := 134) ok (dOf dX4_findPoint 76 rfl) rfl rfl rfl ?_
    refine J_callVi (k2 := kFrt_greatestRate) (ci := 4) (T := TX4) (N := 12) (as := [.ref v1, .int s.1]) (pc' := 137) ok (dOf dX4_findPoint 77 rfl) rfl (cw_Frt_greatestRate (by decide) (by decide)) wml_X4_135 winst_X4_greatestRate wsel_X4_greatestRate rfl ⟨Nat.le_refl 0, Nat.le_refl 0⟩ (Nat.le_of_ble_eq_true rfl) rfl (fun _ _ hf => t_Frt_greatestRate hf) (fun x15 h14 => ?_)
    refine J_iast (pc' := 138) ok (dOf dX4_findPoint 78 rfl) rfl (fun h16 _ => ?_)
    refine J_iinc (v := s.1 + 1) (ls' := [some (.ref v0), some (.ref v1), some (.int v2), some (.int (s.1 + 1)), none, none, none]) (pc' := 141) ok (dOf dX4_findPoint 79 rfl) rfl rfl (by rfl) (Nat.le_of_ble_eq_true rfl) rfl rfl ?_
    refine J_goto (tgt := 118) ok (dOf dX4_findPoint 80 rfl) (by decide) ?_
    exact J_fin (k1 (s.1 + 1, h16))
def Frt_findPoint_j144 (v0 : Nat) (v1 : Nat) (v2 : Int32) (v3 : Int32) (h : AHeap) : Option (Unit × AHeap) :=
  some ((), h)
theorem Frt_findPoint_j144_J {E : JE} {l : Launch} {G : GX} {h' : AHeap} (ok : JOK E l G kFrt_findPoint 0 0 none h') (v0 : Nat) (v1 : Nat) (v2 : Int32) (v3 : Int32) (h : AHeap) : J E kFrt_findPoint (Frt_findPoint_j144 v0 v1 v2 v3 h) (fun z => z = ((), h')) 144 [some (.ref v0), some (.ref v1), some (.int v2), some (.int v3), none, none, none] [] h 0 0 := by
  unfold Frt_findPoint_j144
  exact J_vreturn ok (dOf dX4_findPoint 81 rfl) rfl (Eq.refl 0) (Nat.le_refl 0)
def Frt_findPoint_j116 (v0 : Nat) (v1 : Nat) (v2 : Int32) (v3 : Int32) (h : AHeap) : Option (Unit × AHeap) :=
  (iter (Frt_findPoint_b118 v0 v1 v2) Lmax (0, h)).bind (fun (q118 : Int32 × AHeap) => Frt_findPoint_j144 v0 v1 v2 q118.1 q118.2)
theorem Frt_findPoint_j116_J {E : JE} {l : Launch} {G : GX} {h' : AHeap} (ok : JOK E l G kFrt_findPoint 0 0 none h') (v0 : Nat) (v1 : Nat) (v2 : Int32) (v3 : Int32) (h : AHeap) : J E kFrt_findPoint (Frt_findPoint_j116 v0 v1 v2 v3 h) (fun z => z = ((), h')) 116 [some (.ref v0), some (.ref v1), some (.int v2), some (.int v3), none, none, none] [] h 0 0 := by
  unfold Frt_findPoint_j116
  refine J_iconst (v := 0) (pc' := 117) ok (dOf dX4_findPoint 65 rfl) rfl (by decide) ?_
  refine J_istore_n (ls' := [some (.ref v0), some (.ref v1), some (.int v2), some (.int 0), none, none, none]) (pc' := 118) ok (dOf dX4_findPoint 66 rfl) rfl rfl (Nat.le_of_ble_eq_true rfl) rfl rfl ?_
  refine J_iter (lf := fun z118 => [some (.ref v0), some (.ref v1), some (.int v2), some (.int z118.1), none, none, none]) (sf := fun _ => []) (hf := fun z118 => z118.2) (px := (fun (q118 : Int32 × AHeap) => 144)) (lx := (fun (q118 : Int32 × AHeap) => [some (.ref v0), some (.ref v1), some (.int v2), some (.int q118.1), none, none, none])) (sx := (fun (q118 : Int32 × AHeap) => [])) (hx := (fun (q118 : Int32 × AHeap) => q118.2)) (fun Y2 z118 m1 m2 => Frt_findPoint_b118_J ok v0 v1 v2 m1 m2 z118) (fun q118 => ?_) Lmax _
  exact Frt_findPoint_j144_J ok v0 v1 v2 q118.1 q118.2
def Frt_findPoint (v0 : Nat) (v1 : Nat) (h : AHeap) : Option (Unit × AHeap) :=
  (chk h v0 4).bind fun _ => bnd2 (Frt_findSwaps v0 v1 h) fun _ h1 => (iter (Frt_findPoint_b9 v0 v1) Lmax (1, 0, h1)).bind (fun (q9 : Int32 × Int32 × AHeap) => Frt_findPoint_j116 v0 v1 q9.1 q9.2.1 q9.2.2)
theorem t_Frt_findPoint {l : Launch} {G : GX} {v0 : Nat} {v1 : Nat} {h : AHeap} {h1 : AHeap} (hf : Frt_findPoint v0 v1 h = some ((), h1)) : CT l G kFrt_findPoint 0 0 [.ref v0, .ref v1] h none h1 := by
  refine CT_of (ls := [some (.ref v0), some (.ref v1), none, none, none, none, none]) (Z := fun z => z = ((), h1)) (by decide +kernel) (Nat.le_of_ble_eq_true rfl) hf rfl ⟨rfl, rfl, trivial⟩ (fun E ok => ?_)
  unfold Frt_findPoint
  refine J_aload_n (pc' := 1) ok (dOf dX4_findPoint 0 rfl) rfl rfl rfl ?_
  refine J_aload_n (pc' := 2) ok (dOf dX4_findPoint 1 rfl) rfl rfl rfl ?_
  refine J_callVv (k2 := kFrt_findSwaps) (ci := 4) (T := TX4) (N := 12) (as := [.ref v1]) (pc' := 5) ok (dOf dX4_findPoint 2 rfl) rfl (cw_Frt_findSwaps (by decide) (by decide)) wml_X4_107 winst_X4_findSwaps wsel_X4_findSwaps rfl ⟨Nat.le_refl 0, Nat.le_refl 0⟩ (Nat.le_of_ble_eq_true rfl) rfl (fun _ _ hf => t_Frt_findSwaps hf) (fun _ h1 => ?_)
  refine J_iconst (v := 1) (pc' := 6) ok (dOf dX4_findPoint 3 rfl) rfl (by decide) ?_
  refine J_istore_n (ls' := [some (.ref v0), some (.ref v1), some (.int 1), none, none, none, none]) (pc' := 7) ok (dOf dX4_findPoint 4 rfl) rfl rfl (Nat.le_of_ble_eq_true rfl) rfl rfl ?_
  refine J_iconst (v := 0) (pc' := 8) ok (dOf dX4_findPoint 5 rfl) rfl (by decide) ?_
  refine J_istore_n (ls' := [some (.ref v0), some (.ref v1), some (.int 1), some (.int 0), none, none, none]) (pc' := 9) ok (dOf dX4_findPoint 6 rfl) rfl rfl (Nat.le_of_ble_eq_true rfl) rfl rfl ?_
  refine J_iter (lf := fun z9 => [some (.ref v0), some (.ref v1), some (.int z9.1), some (.int z9.2.1), none, none, none]) (sf := fun _ => []) (hf := fun z9 => z9.2.2) (px := (fun (q9 : Int32 × Int32 × AHeap) => 116)) (lx := (fun (q9 : Int32 × Int32 × AHeap) => [some (.ref v0), some (.ref v1), some (.int q9.1), some (.int q9.2.1), none, none, none])) (sx := (fun (q9 : Int32 × Int32 × AHeap) => [])) (hx := (fun (q9 : Int32 × Int32 × AHeap) => q9.2.2)) (fun Y2 z9 m1 m2 => Frt_findPoint_b9_J ok v0 v1 m1 m2 z9) (fun q9 => ?_) Lmax _
  exact Frt_findPoint_j116_J ok v0 v1 q9.1 q9.2.1 q9.2.2
-- X4_findRates
abbrev kFrt_findRates : Cd := (yX4_findRates, cX4_findRates, 5, (some .boolean), 4, 100)
theorem dX4_findRates : dcheck cX4_findRates [(0, .aload_n 0, 1), (1, .aload_n 1, 1), (2, .iload_n 2, 1), (3, .iload_n 3, 1), (4, .invokevirtual 121, 3), (7, .istore 4, 2), (9, .aload_n 0, 1), (10, .getfield 43, 3), (13, .iconst 0, 1), (14, .invokestatic 87, 3), (17, .aload_n 0, 1), (18, .getfield 46, 3), (21, .iconst 0, 1), (22, .invokestatic 87, 3), (25, .iload 4, 2), (27, .ifCond .le 13, 3), (30, .aload_n 0, 1), (31, .aload_n 1, 1), (32, .iload_n 2, 1), (33, .iload 4, 2), (35, .invokevirtual 125, 3), (38, .iconst 1, 1), (39, .ireturn, 1), (40, .aload_n 0, 1), (41, .aload_n 1, 1), (42, .iload_n 2, 1), (43, .iload_n 3, 1), (44, .invokevirtual 129, 3), (47, .pop, 1), (48, .aload_n 0, 1), (49, .aload_n 1, 1), (50, .invokevirtual 132, 3), (53, .iconst 0, 1), (54, .ireturn, 1)] = true := by decide +kernel
theorem cw_Frt_findRates {k : Cd} (h1 : kFrt_findRates.2.2.2.2.1 + 1 ≤ k.2.2.2.2.1) (h2 : 8 + (kFrt_findRates.2.2.1 + 11) + kFrt_findRates.2.2.2.2.2 ≤ k.2.2.2.2.2) : Cw k kFrt_findRates 3 := ⟨wcode_X4_findRates, wini_SplitProgram_Freight, ⟨by decide, by decide, by decide +kernel⟩, h1, h2⟩
def Frt_findRates (v0 : Nat) (v1 : Nat) (v2 : Int32) (v3 : Int32) (h : AHeap) : Option (Int32 × AHeap) :=
  (chk h v0 4).bind fun _ => bnd2 (Frt_lackAt v0 v1 v2 v3 h) fun x2 h1 => (gfR h1 v0 4 10).bind fun a3 => bnd2 (J7_fill a3 0 h1) fun _ h4 => (gfR h4 v0 4 11).bind fun a5 => bnd2 (J7_fill a5 0 h4) fun _ h6 => (if x2 ≤ 0 then (chk h6 v0 4).bind fun _ => bnd2 (Frt_costAt v0 v1 v2 v3 h6) fun x8 h7 => (chk h7 v0 4).bind fun _ => bnd2 (Frt_findPoint v0 v1 h7) fun _ h9 => (bz 0).bind fun z => some (z, h9) else (chk h6 v0 4).bind fun _ => bnd2 (Frt_findRay v0 v1 v2 x2 h6) fun _ h10 => (bz 1).bind fun z => some (z, h10))
theorem t_Frt_findRates {l : Launch} {G : GX} {v0 : Nat} {v1 : Nat} {v2 : Int32} {v3 : Int32} {h : AHeap} {v : Int32} {h1 : AHeap} (hf : Frt_findRates v0 v1 v2 v3 h = some (v, h1)) : CT l G kFrt_findRates 0 0 [.ref v0, .ref v1, .int v2, .int v3] h (some (.int v)) h1 := by
  refine CT_of (ls := [some (.ref v0), some (.ref v1), some (.int v2), some (.int v3), none]) (Z := fun z => z = (v, h1)) (by decide +kernel) (Nat.le_of_ble_eq_true rfl) hf rfl ⟨rfl, rfl, rfl, rfl, trivial⟩ (fun E ok => ?_)
  unfold Frt_findRates
  refine J_aload_n (pc' := 1) ok (dOf dX4_findRates 0 rfl) rfl rfl rfl ?_
  refine J_aload_n (pc' := 2) ok (dOf dX4_findRates 1 rfl) rfl rfl rfl ?_
  refine J_iload_n (pc' := 3) ok (dOf dX4_findRates 2 rfl) rfl rfl rfl ?_
  refine J_iload_n (pc' := 4) ok (dOf dX4_findRates 3 rfl) rfl rfl rfl ?_
  refine J_callVi (k2 := kFrt_lackAt) (ci := 4) (T := TX4) (N := 12) (as := [.ref v1, .int v2, .int v3]) (pc' := 7) ok (dOf dX4_findRates 4 rfl) rfl (cw_Frt_lackAt (by decide) (by decide)) wml_X4_121 winst_X4_lackAt wsel_X4_lackAt rfl ⟨Nat.le_refl 0, Nat.le_refl 0⟩ (Nat.le_of_ble_eq_true rfl) rfl (fun _ _ hf => t_Frt_lackAt hf) (fun x2 h1 => ?_)
  refine J_istore (ls' := [some (.ref v0), some (.ref v1), some (.int v2), some (.int v3), some (.int x2)]) (pc' := 9) ok (dOf dX4_findRates 5 rfl) rfl (Nat.le_of_ble_eq_true rfl) rfl rfl ?_
  refine J_aload_n (pc' := 10) ok (dOf dX4_findRates 6 rfl) rfl rfl rfl ?_
  refine J_getR (ci := 4) (kf := 10) (C := RX4) (T := TX4) (N := 12) (pc' := 13) ok (dOf dX4_findRates 7 rfl) rfl (by decide) rfl (by decide) win_4 wfl_X4_43 (fun a3 => ?_)
  refine J_iconst (v := 0) (pc' := 14) ok (dOf dX4_findRates 8 rfl) rfl (by decide) ?_
  refine J_callSv (k2 := kJ7_fill) (as := [.ref a3, .int 0]) (pc' := 17) ok (dOf dX4_findRates 9 rfl) rfl (cw_J7_fill (by decide) (by decide)) wml_X4_87 wstat_J7_fill_53178 ⟨Nat.le_refl 0, Nat.le_refl 0⟩ (Nat.le_of_ble_eq_true rfl) rfl (fun _ _ hf => t_J7_fill hf) (fun _ h4 => ?_)
  refine J_aload_n (pc' := 18) ok (dOf dX4_findRates 10 rfl) rfl rfl rfl ?_
  refine J_getR (ci := 4) (kf := 11) (C := RX4) (T := TX4) (N := 12) (pc' := 21) ok (dOf dX4_findRates 11 rfl) rfl (by decide) rfl (by decide) win_4 wfl_X4_46 (fun a5 => ?_)
  refine J_iconst (v := 0) (pc' := 22) ok (dOf dX4_findRates 12 rfl) rfl (by decide) ?_
  refine J_callSv (k2 := kJ7_fill) (as := [.ref a5, .int 0]) (pc' := 25) ok (dOf dX4_findRates 13 rfl) rfl (cw_J7_fill (by decide) (by decide)) wml_X4_87 wstat_J7_fill_53178 ⟨Nat.le_refl 0, Nat.le_refl 0⟩ (Nat.le_of_ble_eq_true rfl) rfl (fun _ _ hf => t_J7_fill hf) (fun _ h6 => ?_)
  refine J_iload (pc' := 27) ok (dOf dX4_findRates 14 rfl) rfl rfl ?_
  refine J_if_le (tgt := 40) (pc' := 30) ok (dOf dX4_findRates 15 rfl) rfl (by decide) ?_ ?_
  · refine J_aload_n (pc' := 41) ok (dOf dX4_findRates 23 rfl) rfl rfl rfl ?_
    refine J_aload_n (pc' := 42) ok (dOf dX4_findRates 24 rfl) rfl rfl rfl ?_
    refine J_iload_n (pc' := 43) ok (dOf dX4_findRates 25 rfl) rfl rfl rfl ?_
    refine J_iload_n (pc' := 44) ok (dOf dX4_findRates 26 rfl) rfl rfl rfl ?_
    refine J_callVi (k2 := kFrt_costAt) (ci := 4) (T := TX4) (N := 12) (as := [.ref v1, .int v2, .int v3]) (pc' := 47) ok (dOf dX4_findRates 27 rfl) rfl (cw_Frt_costAt (by decide) (by decide)) wml_X4_129 winst_X4_costAt wsel_X4_costAt rfl ⟨Nat.le_refl 0, Nat.le_refl 0⟩ (Nat.le_of_ble_eq_true rfl) rfl (fun _ _ hf => t_Frt_costAt hf) (fun x8 h7 => ?_)
    refine J_pop (pc' := 48) ok (dOf dX4_findRates 28 rfl) rfl rfl ?_
    refine J_aload_n (pc' := 49) ok (dOf dX4_findRates 29 rfl) rfl rfl rfl ?_
    refine J_aload_n (pc' := 50) ok (dOf dX4_findRates 30 rfl) rfl rfl rfl ?_
    refine J_callVv (k2 := kFrt_findPoint) (ci := 4) (T := TX4) (N := 12) (as := [.ref v1]) (pc' := 53) ok (dOf dX4_findRates 31 rfl) rfl (cw_Frt_findPoint (by decide) (by decide)) wml_X4_132 winst_X4_findPoint wsel_X4_findPoint rfl ⟨Nat.le_refl 0, Nat.le_refl 0⟩ (Nat.le_of_ble_eq_true rfl) rfl (fun _ _ hf => t_Frt_findPoint hf) (fun _ h9 => ?_)
    refine J_iconst (v := 0) (pc' := 54) ok (dOf dX4_findRates 32 rfl) rfl (by decide) ?_
    exact J_zreturn ok (dOf dX4_findRates 33 rfl) rfl (Eq.refl 0) (Nat.le_refl 0)
  · refine J_aload_n (pc' := 31) ok (dOf dX4_findRates 16 rfl) rfl rfl rfl ?_
    refine J_aload_n (pc' := 32) ok (dOf dX4_findRates 17 rfl) rfl rfl rfl ?_
    refine J_iload_n (pc' := 33) ok (dOf dX4_findRates 18 rfl) rfl rfl rfl ?_
    refine J_iload (pc' := 35) ok (dOf dX4_findRates 19 rfl) rfl rfl ?_
    refine J_callVv (k2 := kFrt_findRay) (ci := 4) (T := TX4) (N := 12) (as := [.ref v1, .int v2, .int x2]) (pc' := 38) ok (dOf dX4_findRates 20 rfl) rfl (cw_Frt_findRay (by decide) (by decide)) wml_X4_125 winst_X4_findRay wsel_X4_findRay rfl ⟨Nat.le_refl 0, Nat.le_refl 0⟩ (Nat.le_of_ble_eq_true rfl) rfl (fun _ _ hf => t_Frt_findRay hf) (fun _ h10 => ?_)
    refine J_iconst (v := 1) (pc' := 39) ok (dOf dX4_findRates 21 rfl) rfl (by decide) ?_
    exact J_zreturn ok (dOf dX4_findRates 22 rfl) rfl (Eq.refl 0) (Nat.le_refl 0)
-- X2_append
abbrev kCuts_append : Cd := (yX2_append, cX2_append, 5, none, 1, 45)
theorem dX2_append : dcheck cX2_append [(0, .aload_n 0, 1), (1, .getfield 31, 3), (4, .aload_n 0, 1), (5, .getfield 9, 3), (8, .if_icmp .lt 4, 3), (11, .return_, 1), (12, .aload_n 0, 1), (13, .getfield 15, 3), (16, .aload_n 0, 1), (17, .getfield 31, 3), (20, .iload_n 1, 1), (21, .iastore, 1), (22, .aload_n 0, 1), (23, .getfield 19, 3), (26, .aload_n 0, 1), (27, .getfield 31, 3), (30, .iload_n 2, 1), (31, .iastore, 1), (32, .aload_n 0, 1), (33, .getfield 22, 3), (36, .aload_n 0, 1), (37, .getfield 31, 3), (40, .iconst 0, 1), (41, .iastore, 1), (42, .aload_n 3, 1), (43, .iconst 0, 1), (44, .aload_n 0, 1), (45, .getfield 25, 3), (48, .aload_n 0, 1), (49, .getfield 31, 3), (52, .iconst 4, 1), (53, .imul, 1), (54, .iconst 4, 1), (55, .invokestatic 40, 3), (58, .aload 4, 2), (60, .iconst 0, 1), (61, .aload_n 0, 1), (62, .getfield 28, 3), (65, .aload_n 0, 1), (66, .getfield 31, 3), (69, .bipush 6, 2), (71, .imul, 1), (72, .bipush 6, 2), (74, .invokestatic 40, 3), (77, .aload_n 0, 1), (78, .dup, 1), (79, .getfield 31, 3), (82, .iconst 1, 1), (83, .iadd, 1), (84, .putfield 31, 3), (87, .return_, 1)] = true := by decide +kernel
theorem cw_Cuts_append {k : Cd} (h1 : kCuts_append.2.2.2.2.1 + 1 ≤ k.2.2.2.2.1) (h2 : 8 + (kCuts_append.2.2.1 + 11) + kCuts_append.2.2.2.2.2 ≤ k.2.2.2.2.2) : Cw k kCuts_append 4 := ⟨wcode_X2_append, wini_SplitProgram_Cuts, ⟨by decide, by decide, by decide +kernel⟩, h1, h2⟩
def Cuts_append (v0 : Nat) (v1 : Int32) (v2 : Int32) (v3 : Nat) (v4 : Nat) (h : AHeap) : Option (Unit × AHeap) :=
  (gfI h v0 2 1).bind fun x1 => (gfI h v0 2 0).bind fun x2 => (if x1 < x2 then (gfR h v0 2 2).bind fun a3 => (gfI h v0 2 1).bind fun x4 => (ast 0 h a3 x4 v1).bind fun h5 => (gfR h5 v0 2 3).bind fun a6 => (gfI h5 v0 2 1).bind fun x7 => (ast 0 h5 a6 x7 v2).bind fun h8 => (gfR h8 v0 2 4).bind fun a9 => (gfI h8 v0 2 1).bind fun x10 => (ast 0 h8 a9 x10 0).bind fun h11 => (gfR h11 v0 2 5).bind fun a12 => (gfI h11 v0 2 1).bind fun x13 => (acp h11 v3 0 a12 (x13 * 4) 4).bind fun h14 => (gfR h14 v0 2 6).bind fun a15 => (gfI h14 v0 2 1).bind fun x16 => (acp h14 v4 0 a15 (x16 * 6) 6).bind fun h17 => (gfI h17 v0 2 1).bind fun x18 => (pfV h17 v0 2 1 (.int (x18 + 1))).bind fun h19 => some ((), h19) else some ((), h))
theorem t_Cuts_append {l : Launch} {G : GX} {v0 : Nat} {v1 : Int32} {v2 : Int32} {v3 : Nat} {v4 : Nat} {h : AHeap} {h1 : AHeap} (hf : Cuts_append v0 v1 v2 v3 v4 h = some ((), h1)) : CT l G kCuts_append 0 0 [.ref v0, .int v1, .int v2, .ref v3, .ref v4] h none h1 := by
  refine CT_of (ls := [some (.ref v0), some (.int v1), some (.int v2), some (.ref v3), some (.ref v4)]) (Z := fun z => z = ((), h1)) (by decide +kernel) (Nat.le_of_ble_eq_true rfl) hf rfl ⟨rfl, rfl, rfl, rfl, rfl, trivial⟩ (fun E ok => ?_)
  unfold Cuts_append
  refine J_aload_n (pc' := 1) ok (dOf dX2_append 0 rfl) rfl rfl rfl ?_
  refine J_getI (ci := 2) (kf := 1) (C := RX2) (T := TX2) (N := 7) (pc' := 4) ok (dOf dX2_append 1 rfl) rfl (by decide) rfl (by decide) win_2 wfl_X2_31 (fun x1 => ?_)
  refine J_aload_n (pc' := 5) ok (dOf dX2_append 2 rfl) rfl rfl rfl ?_
  refine J_getI (ci := 2) (kf := 0) (C := RX2) (T := TX2) (N := 7) (pc' := 8) ok (dOf dX2_append 3 rfl) rfl (by decide) rfl (by decide) win_2 wfl_X2_9 (fun x2 => ?_)
  refine J_icmp_lt (tgt := 12) (pc' := 11) ok (dOf dX2_append 4 rfl) rfl (by decide) ?_ ?_
  · refine J_aload_n (pc' := 13) ok (dOf dX2_append 6 rfl) rfl rfl rfl ?_
    refine J_getR (ci := 2) (kf := 2) (C := RX2) (T := TX2) (N := 7) (pc' := 16) ok (dOf dX2_append 7 rfl) rfl (by decide) rfl (by decide) win_2 wfl_X2_15 (fun a3 => ?_)
    refine J_aload_n (pc' := 17) ok (dOf dX2_append 8 rfl) rfl rfl rfl ?_
    refine J_getI (ci := 2) (kf := 1) (C := RX2) (T := TX2) (N := 7) (pc' := 20) ok (dOf dX2_append 9 rfl) rfl (by decide) rfl (by decide) win_2 wfl_X2_31 (fun x4 => ?_)
    refine J_iload_n (pc' := 21) ok (dOf dX2_append 10 rfl) rfl rfl rfl ?_
    refine J_iast (pc' := 22) ok (dOf dX2_append 11 rfl) rfl (fun h5 _ => ?_)
    refine J_aload_n (pc' := 23) ok (dOf dX2_append 12 rfl) rfl rfl rfl ?_
    refine J_getR (ci := 2) (kf := 3) (C := RX2) (T := TX2) (N := 7) (pc' := 26) ok (dOf dX2_append 13 rfl) rfl (by decide) rfl (by decide) win_2 wfl_X2_19 (fun a6 => ?_)
    refine J_aload_n (pc' := 27) ok (dOf dX2_append 14 rfl) rfl rfl rfl ?_
    refine J_getI (ci := 2) (kf := 1) (C := RX2) (T := TX2) (N := 7) (pc' := 30) ok (dOf dX2_append 15 rfl) rfl (by decide) rfl (by decide) win_2 wfl_X2_31 (fun x7 => ?_)
    refine J_iload_n (pc' := 31) ok (dOf dX2_append 16 rfl) rfl rfl rfl ?_
    refine J_iast (pc' := 32) ok (dOf dX2_append 17 rfl) rfl (fun h8 _ => ?_)
    refine J_aload_n (pc' := 33) ok (dOf dX2_append 18 rfl) rfl rfl rfl ?_
    refine J_getR (ci := 2) (kf := 4) (C := RX2) (T := TX2) (N := 7) (pc' := 36) ok (dOf dX2_append 19 rfl) rfl (by decide) rfl (by decide) win_2 wfl_X2_22 (fun a9 => ?_)
    refine J_aload_n (pc' := 37) ok (dOf dX2_append 20 rfl) rfl rfl rfl ?_
    refine J_getI (ci := 2) (kf := 1) (C := RX2) (T := TX2) (N := 7) (pc' := 40) ok (dOf dX2_append 21 rfl) rfl (by decide) rfl (by decide) win_2 wfl_X2_31 (fun x10 => ?_)
    refine J_iconst (v := 0) (pc' := 41) ok (dOf dX2_append 22 rfl) rfl (by decide) ?_
    refine J_iast (pc' := 42) ok (dOf dX2_append 23 rfl) rfl (fun h11 _ => ?_)
    refine J_aload_n (pc' := 43) ok (dOf dX2_append 24 rfl) rfl rfl rfl ?_
    refine J_iconst (v := 0) (pc' := 44) ok (dOf dX2_append 25 rfl) rfl (by decide) ?_
    refine J_aload_n (pc' := 45) ok (dOf dX2_append 26 rfl) rfl rfl rfl ?_
    refine J_getR (ci := 2) (kf := 5) (C := RX2) (T := TX2) (N := 7) (pc' := 48) ok (dOf dX2_append 27 rfl) rfl (by decide) rfl (by decide) win_2 wfl_X2_25 (fun a12 => ?_)
    refine J_aload_n (pc' := 49) ok (dOf dX2_append 28 rfl) rfl rfl rfl ?_
    refine J_getI (ci := 2) (kf := 1) (C := RX2) (T := TX2) (N := 7) (pc' := 52) ok (dOf dX2_append 29 rfl) rfl (by decide) rfl (by decide) win_2 wfl_X2_31 (fun x13 => ?_)
    refine J_iconst (v := 4) (pc' := 53) ok (dOf dX2_append 30 rfl) rfl (by decide) ?_
    refine J_imul (pc' := 54) ok (dOf dX2_append 31 rfl) rfl ?_
    refine J_iconst (v := 4) (pc' := 55) ok (dOf dX2_append 32 rfl) rfl (by decide) ?_
    refine J_acp (pc' := 58) ok (dOf dX2_append 33 rfl) rfl wml_X2_40 wnat_java_lang_System_arraycopy wstat_java_lang_System_arraycopy wini_java_lang_System (Nat.le_of_ble_eq_true rfl) (Nat.le_of_ble_eq_true rfl) (fun h14 _ => ?_)
    refine J_aload (pc' := 60) ok (dOf dX2_append 34 rfl) rfl rfl ?_
    refine J_iconst (v := 0) (pc' := 61) ok (dOf dX2_append 35 rfl) rfl (by decide) ?_
    refine J_aload_n (pc' := 62) ok (dOf dX2_append 36 rfl) rfl rfl rfl ?_
    refine J_getR (ci := 2) (kf := 6) (C := RX2) (T := TX2) (N := 7) (pc' := 65) ok (dOf dX2_append 37 rfl) rfl (by decide) rfl (by decide) win_2 wfl_X2_28 (fun a15 => ?_)
    refine J_aload_n (pc' := 66) ok (dOf dX2_append 38 rfl) rfl rfl rfl ?_
    refine J_getI (ci := 2) (kf := 1) (C := RX2) (T := TX2) (N := 7) (pc' := 69) ok (dOf dX2_append 39 rfl) rfl (by decide) rfl (by decide) win_2 wfl_X2_31 (fun x16 => ?_)
    refine J_bipush (v := 6) (pc' := 71) ok (dOf dX2_append 40 rfl) rfl (by decide) ?_
    refine J_imul (pc' := 72) ok (dOf dX2_append 41 rfl) rfl ?_
    refine J_bipush (v := 6) (pc' := 74) ok (dOf dX2_append 42 rfl) rfl (by decide) ?_
    refine J_acp (pc' := 77) ok (dOf dX2_append 43 rfl) rfl wml_X2_40 wnat_java_lang_System_arraycopy wstat_java_lang_System_arraycopy wini_java_lang_System (Nat.le_of_ble_eq_true rfl) (Nat.le_of_ble_eq_true rfl) (fun h17 _ => ?_)
    refine J_aload_n (pc' := 78) ok (dOf dX2_append 44 rfl) rfl rfl rfl ?_
    refine J_dup (pc' := 79) ok (dOf dX2_append 45 rfl) rfl rfl ?_
    refine J_getI (ci := 2) (kf := 1) (C := RX2) (T := TX2) (N := 7) (pc' := 82) ok (dOf dX2_append 46 rfl) rfl (by decide) rfl (by decide) win_2 wfl_X2_31 (fun x18 => ?_)
    refine J_iconst (v := 1) (pc' := 83) ok (dOf dX2_append 47 rfl) rfl (by decide) ?_
    refine J_iadd (pc' := 84) ok (dOf dX2_append 48 rfl) rfl ?_
    refine J_putI (ci := 2) (kf := 1) (C := RX2) (T := TX2) (N := 7) (pc' := 87) ok tyX2 (dOf dX2_append 49 rfl) rfl rfl (by decide) win_2 tyX2_ok nmX2 rfl rfl wfl_X2_31 (fun h19 _ => ?_)
    exact J_vreturn ok (dOf dX2_append 50 rfl) rfl (Eq.refl 0) (Nat.le_refl 0)
  · exact J_vreturn ok (dOf dX2_append 5 rfl) rfl (Eq.refl 0) (Nat.le_refl 0)
-- X3_apply
abbrev kEng_apply : Cd := (yX3_apply, cX3_apply, 8, (some .int), 5, 124)
theorem dX3_apply : dcheck cX3_apply [(0, .aload_n 3, 1), (1, .dup, 1), (2, .getfield 159, 3), (5, .iconst 1, 1), (6, .iadd, 1), (7, .putfield 159, 3), (10, .aload_n 3, 1), (11, .aload_n 0, 1), (12, .getfield 64, 3), (15, .putfield 39, 3), (18, .aload_n 3, 1), (19, .aload_n 0, 1), (20, .getfield 61, 3), (23, .putfield 162, 3), (26, .aload_n 0, 1), (27, .getfield 61, 3), (30, .iconst (-1), 1), (31, .if_icmp .ne 5, 3), (34, .iconst 0, 1), (35, .ireturn, 1), (36, .aload_n 3, 1), (37, .aload_n 0, 1), (38, .getfield 124, 3), (41, .putfield 117, 3), (44, .aload_n 3, 1), (45, .aload_n 0, 1), (46, .getfield 131, 3), (49, .putfield 128, 3), (52, .aload_n 3, 1), (53, .aload_n 0, 1), (54, .getfield 135, 3), (57, .putfield 132, 3), (60, .aload_n 0, 1), (61, .getfield 36, 3), (64, .iconst 0, 1), (65, .aload_n 2, 1), (66, .getfield 107, 3), (69, .iconst 0, 1), (70, .aload_n 2, 1), (71, .getfield 94, 3), (74, .invokestatic 163, 3), (77, .aload_n 0, 1), (78, .getfield 64, 3), (81, .ifCond .eq 5, 3), (84, .iconst 0, 1), (85, .ireturn, 1), (86, .aload_n 0, 1), (87, .getfield 120, 3), (90, .ifCond .eq 54, 3), (93, .iload 4, 2), (95, .ifCond .eq 49, 3), (98, .aload_n 2, 1), (99, .iload 4, 2), (101, .invokevirtual 169, 3), (104, .istore 5, 2), (106, .aload_n 3, 1), (107, .dup, 1), (108, .getfield 172, 3), (111, .iload 5, 2), (113, .iadd, 1), (114, .putfield 172, 3), (117, .aload_n 0, 1), (118, .getfield 21, 3), (121, .aload_n 0, 1), (122, .getfield 21, 3), (125, .getfield 175, 3), (128, .ifCond .ne 8, 3), (131, .iload 5, 2), (133, .ifCond .le 7, 3), (136, .iconst 1, 1), (137, .goto 4, 3), (140, .iconst 0, 1), (141, .putfield 175, 3), (144, .iconst 0, 1), (145, .istore 5, 2), (147, .iconst 0, 1), (148, .istore 6, 2), (150, .iload 6, 2), (152, .aload_n 1, 1), (153, .getfield 65, 3), (156, .if_icmp .ge 102, 3), (159, .aload_n 0, 1), (160, .getfield 32, 3), (163, .iload 6, 2), (165, .baload, 1), (166, .ifCond .eq 86, 3), (169, .aload_n 0, 1), (170, .getfield 12, 3), (173, .getfield 150, 3), (176, .aload_n 1, 1), (177, .iload 6, 2), (179, .aload_n 0, 1), (180, .getfield 61, 3), (183, .invokevirtual 178, 3), (186, .istore 7, 2), (188, .aload_n 2, 1), (189, .iload 6, 2), (191, .iload 7, 2), (193, .ifCond .eq 7, 3), (196, .iconst 1, 1), (197, .goto 4, 3), (200, .iconst 0, 1), (201, .aload_n 0, 1), (202, .getfield 12, 3), (205, .getfield 150, 3), (208, .getfield 182, 3), (211, .aload_n 0, 1), (212, .getfield 12, 3), (215, .getfield 150, 3), (218, .getfield 185, 3), (221, .invokevirtual 188, 3), (224, .iinc 5 1, 3), (227, .aload_n 0, 1), (228, .getfield 21, 3), (231, .getfield 175, 3), (234, .ifCond .ne 18, 3), (237, .aload_n 0, 1), (238, .getfield 21, 3), (241, .aload_n 1, 1), (242, .aload_n 2, 1), (243, .aload_n 2, 1), (244, .getfield 94, 3), (247, .iconst 1, 1), (248, .isub, 1), (249, .invokevirtual 192, 3), (252, .iinc 6 1, 3), (255, .goto (-105), 3), (258, .iload 5, 2), (260, .ireturn, 1)] = true := by decide +kernel
theorem cw_Eng_apply {k : Cd} (h1 : kEng_apply.2.2.2.2.1 + 1 ≤ k.2.2.2.2.1) (h2 : 8 + (kEng_apply.2.2.1 + 11) + kEng_apply.2.2.2.2.2 ≤ k.2.2.2.2.2) : Cw k kEng_apply 4 := ⟨wcode_X3_apply, wini_SplitProgram_Engine, ⟨by decide, by decide, by decide +kernel⟩, h1, h2⟩
def Eng_apply_j252 (v0 : Nat) (v1 : Nat) (v2 : Nat) (v3 : Nat) (v4 : Int32) (v5 : Int32) (v6 : Int32) (h : AHeap) : Option ((Int32 × Int32 × AHeap) ⊕ ((Int32 × Int32 × AHeap))) :=
  some (Sum.inl (v5, v6 + 1, h))
theorem Eng_apply_j252_J {E : JE} {l : Launch} {G : GX} {r : Option Value} {h' : AHeap} (ok : JOK E l G kEng_apply 0 0 r h') (v0 : Nat) (v1 : Nat) (v2 : Nat) (v3 : Nat) (v4 : Int32) (v5 : Int32) (v6 : Int32) (h : AHeap) {Y : (Int32 × Int32 × AHeap) ⊕ ((Int32 × Int32 × AHeap)) → Prop} (k1 : ∀ s' : Int32 × Int32 × AHeap, Y (.inl s') → JW E kEng_apply 150 [some (.ref v0), some (.ref v1), some (.ref v2), some (.ref v3), some (.int v4), some (.int s'.1), some (.int s'.2.1), none] [] s'.2.2 0 0) (kx258 : ∀ q : Int32 × Int32 × AHeap, Y (.inr q) → JW E kEng_apply 258 [some (.ref v0), some (.ref v1), some (.ref v2), some (.ref v3), some (.int v4), some (.int q.1), some (.int q.2.1), none] [] q.2.2 0 0) : J E kEng_apply (Eng_apply_j252 v0 v1 v2 v3 v4 v5 v6 h) Y 252 [some (.ref v0), some (.ref v1), some (.ref v2), some (.ref v3), some (.int v4), some (.int v5), some (.int v6), none] [] h 0 0 := by
  unfold Eng_apply_j252
  refine J_iinc (v := v6 + 1) (ls' := [some (.ref v0), some (.ref v1), some (.ref v2), some (.ref v3), some (.int v4), some (.int v5), some (.int (v6 + 1)), none]) (pc' := 255) ok (dOf dX3_apply 125 rfl) rfl rfl (by rfl) (Nat.le_of_ble_eq_true rfl) rfl rfl ?_
  refine J_goto (tgt := 150) ok (dOf dX3_apply 126 rfl) (by decide) ?_
  exact J_fin (k1 (v5, v6 + 1, h))
def Eng_apply_j201 (v0 : Nat) (v1 : Nat) (v2 : Nat) (v3 : Nat) (v4 : Int32) (v5 : Int32) (v6 : Int32) (v7 : Int32) (t0 : Nat) (t1 : Int32) (t2 : Int32) (h : AHeap) : Option ((Int32 × Int32 × AHeap) ⊕ ((Int32 × Int32 × AHeap))) :=
  (gfR h v0 3 0).bind fun a28 => (gfR h a28 0 0).bind fun a29 => (gfR h a29 4 10).bind fun a30 => (gfR h v0 3 0).bind fun a31 => (gfR h a31 0 0).bind fun a32 => (gfR h a32 4 11).bind fun a33 => (chk h t0 2).bind fun _ => bnd2 (Cuts_append t0 t1 t2 a30 a33 h) fun _ h34 => (gfR h34 v0 3 1).bind fun a35 => (gfI h34 a35 1 0).bind fun x36 => (if ¬ x36 = 0 then Eng_apply_j252 v0 v1 v2 v3 v4 (v5 + 1) v6 h34 else (gfR h34 v0 3 1).bind fun a37 => (gfI h34 v2 2 1).bind fun x38 => (chk h34 a37 1).bind fun _ => bnd2 (Bnds_include a37 v1 v2 (x38 - 1) h34) fun _ h39 => Eng_apply_j252 v0 v1 v2 v3 v4 (v5 + 1) v6 h39)
theorem Eng_apply_j201_J {E : JE} {l : Launch} {G : GX} {r : Option Value} {h' : AHeap} (ok : JOK E l G kEng_apply 0 0 r h') (v0 : Nat) (v1 : Nat) (v2 : Nat) (v3 : Nat) (v4 : Int32) (v5 : Int32) (v6 : Int32) (v7 : Int32) (t0 : Nat) (t1 : Int32) (t2 : Int32) (h : AHeap) {Y : (Int32 × Int32 × AHeap) ⊕ ((Int32 × Int32 × AHeap)) → Prop} (k1 : ∀ s' : Int32 × Int32 × AHeap, Y (.inl s') → JW E kEng_apply 150 [some (.ref v0), some (.ref v1), some (.ref v2), some (.ref v3), some (.int v4), some (.int s'.1), some (.int s'.2.1), none] [] s'.2.2 0 0) (kx258 : ∀ q : Int32 × Int32 × AHeap, Y (.inr q) → JW E kEng_apply 258 [some (.ref v0), some (.ref v1), some (.ref v2), some (.ref v3), some (.int v4), some (.int q.1), some (.int q.2.1), none] [] q.2.2 0 0) : J E kEng_apply (Eng_apply_j201 v0 v1 v2 v3 v4 v5 v6 v7 t0 t1 t2 h) Y 201 [some (.ref v0), some (.ref v1), some (.ref v2), some (.ref v3), some (.int v4), some (.int v5), some (.int v6), some (.int v7)] [.int t2, .int t1, .ref t0] h 0 0 := by
  unfold Eng_apply_j201
  refine J_aload_n (pc' := 202) ok (dOf dX3_apply 102 rfl) rfl rfl rfl ?_
  refine J_getR (ci := 3) (kf := 0) (C := RX3) (T := TX3) (N := 12) (pc' := 205) ok (dOf dX3_apply 103 rfl) rfl (by decide) rfl (by decide) win_3 wfl_X3_12 (fun a28 => ?_)
  refine J_getR (ci := 0) (kf := 0) (C := RX0) (T := TX0) (N := 2) (pc' := 208) ok (dOf dX3_apply 104 rfl) rfl (by decide) rfl (by decide) win_0 wfl_X3_150 (fun a29 => ?_)
  refine J_getR (ci := 4) (kf := 10) (C := RX4) (T := TX4) (N := 12) (pc' := 211) ok (dOf dX3_apply 105 rfl) rfl (by decide) rfl (by decide) win_4 wfl_X3_182 (fun a30 => ?_)
  refine J_aload_n (pc' := 212) ok (dOf dX3_apply 106 rfl) rfl rfl rfl ?_
  refine J_getR (ci := 3) (kf := 0) (C := RX3) (T := TX3) (N := 12) (pc' := 215) ok (dOf dX3_apply 107 rfl) rfl (by decide) rfl (by decide) win_3 wfl_X3_12 (fun a31 => ?_)
  refine J_getR (ci := 0) (kf := 0) (C := RX0) (T := TX0) (N := 2) (pc' := 218) ok (dOf dX3_apply 108 rfl) rfl (by decide) rfl (by decide) win_0 wfl_X3_150 (fun a32 => ?_)
  refine J_getR (ci := 4) (kf := 11) (C := RX4) (T := TX4) (N := 12) (pc' := 221) ok (dOf dX3_apply 109 rfl) rfl (by decide) rfl (by decide) win_4 wfl_X3_185 (fun a33 => ?_)
  refine J_callVv (k2 := kCuts_append) (ci := 2) (T := TX2) (N := 7) (as := [.int t1, .int t2, .ref a30, .ref a33]) (pc' := 224) ok (dOf dX3_apply 110 rfl) rfl (cw_Cuts_append (by decide) (by decide)) wml_X3_188 winst_X2_append wsel_X2_append rfl ⟨Nat.le_refl 0, Nat.le_refl 0⟩ (Nat.le_of_ble_eq_true rfl) rfl (fun _ _ hf => t_Cuts_append hf) (fun _ h34 => ?_)
  refine J_iinc (v := v5 + 1) (ls' := [some (.ref v0), some (.ref v1), some (.ref v2), some (.ref v3), some (.int v4), some (.int (v5 + 1)), some (.int v6), some (.int v7)]) (pc' := 227) ok (dOf dX3_apply 111 rfl) rfl rfl (by rfl) (Nat.le_of_ble_eq_true rfl) rfl rfl ?_
  refine J_aload_n (pc' := 228) ok (dOf dX3_apply 112 rfl) rfl rfl rfl ?_
  refine J_getR (ci := 3) (kf := 1) (C := RX3) (T := TX3) (N := 12) (pc' := 231) ok (dOf dX3_apply 113 rfl) rfl (by decide) rfl (by decide) win_3 wfl_X3_21 (fun a35 => ?_)
  refine J_getI (ci := 1) (kf := 0) (C := RX1) (T := TX1) (N := 3) (pc' := 234) ok (dOf dX3_apply 114 rfl) rfl (by decide) rfl (by decide) win_1 wfl_X3_175 (fun x36 => ?_)
  refine J_if_ne (tgt := 252) (pc' := 237) ok (dOf dX3_apply 115 rfl) rfl (by decide) ?_ ?_
  · refine J_weak (ls' := [some (.ref v0), some (.ref v1), some (.ref v2), some (.ref v3), some (.int v4), some (.int (v5 + 1)), some (.int v6), none]) ⟨rfl, rfl, rfl, rfl, rfl, rfl, rfl, trivial⟩ ?_
    exact Eng_apply_j252_J ok v0 v1 v2 v3 v4 (v5 + 1) v6 h34 k1 kx258
  · refine J_aload_n (pc' := 238) ok (dOf dX3_apply 116 rfl) rfl rfl rfl ?_
    refine J_getR (ci := 3) (kf := 1) (C := RX3) (T := TX3) (N := 12) (pc' := 241) ok (dOf dX3_apply 117 rfl) rfl (by decide) rfl (by decide) win_3 wfl_X3_21 (fun a37 => ?_)
    refine J_aload_n (pc' := 242) ok (dOf dX3_apply 118 rfl) rfl rfl rfl ?_
    refine J_aload_n (pc' := 243) ok (dOf dX3_apply 119 rfl) rfl rfl rfl ?_
    refine J_aload_n (pc' := 244) ok (dOf dX3_apply 120 rfl) rfl rfl rfl ?_
    refine J_getI (ci := 2) (kf := 1) (C := RX2) (T := TX2) (N := 7) (pc' := 247) ok (dOf dX3_apply 121 rfl) rfl (by decide) rfl (by decide) win_2 wfl_X3_94 (fun x38 => ?_)
    refine J_iconst (v := 1) (pc' := 248) ok (dOf dX3_apply 122 rfl) rfl (by decide) ?_
    refine J_isub (pc' := 249) ok (dOf dX3_apply 123 rfl) rfl ?_
    refine J_callVv (k2 := kBnds_include) (ci := 1) (T := TX1) (N := 3) (as := [.ref v1, .ref v2, .int (x38 - 1)]) (pc' := 252) ok (dOf dX3_apply 124 rfl) rfl (cw_Bnds_include (by decide) (by decide)) wml_X3_192 winst_X1_include wsel_X1_include rfl ⟨Nat.le_refl 0, Nat.le_refl 0⟩ (Nat.le_of_ble_eq_true rfl) rfl (fun _ _ hf => t_Bnds_include hf) (fun _ h39 => ?_)
    refine J_weak (ls' := [some (.ref v0), some (.ref v1), some (.ref v2), some (.ref v3), some (.int v4), some (.int (v5 + 1)), some (.int v6), none]) ⟨rfl, rfl, rfl, rfl, rfl, rfl, rfl, trivial⟩ ?_
    exact Eng_apply_j252_J ok v0 v1 v2 v3 v4 (v5 + 1) v6 h39 k1 kx258
def Eng_apply_b150 (v0 : Nat) (v1 : Nat) (v2 : Nat) (v3 : Nat) (v4 : Int32) (s : Int32 × Int32 × AHeap) : Option ((Int32 × Int32 × AHeap) ⊕ ((Int32 × Int32 × AHeap))) :=
  (gfI s.2.2 v1 6 2).bind fun x20 => (if x20 ≤ s.2.1 then some (Sum.inr (s.1, s.2.1, s.2.2)) else (gfR s.2.2 v0 3 4).bind fun a21 => (ald 1 s.2.2 a21 s.2.1).bind fun x22 => (if x22 = 0 then Eng_apply_j252 v0 v1 v2 v3 v4 s.1 s.2.1 s.2.2 else (gfR s.2.2 v0 3 0).bind fun a23 => (gfR s.2.2 a23 0 0).bind fun a24 => (gfI s.2.2 v0 3 6).bind fun x25 => (chk s.2.2 a24 4).bind fun _ => bnd2 (Frt_findRates a24 v1 s.2.1 x25 s.2.2) fun x27 h26 => (if x27 = 0 then Eng_apply_j201 v0 v1 v2 v3 v4 s.1 s.2.1 x27 v2 s.2.1 0 h26 else Eng_apply_j201 v0 v1 v2 v3 v4 s.1 s.2.1 x27 v2 s.2.1 1 h26)))
theorem Eng_apply_b150_J {E : JE} {l : Launch} {G : GX} {r : Option Value} {h' : AHeap} (ok : JOK E l G kEng_apply 0 0 r h') (v0 : Nat) (v1 : Nat) (v2 : Nat) (v3 : Nat) (v4 : Int32) {Y : (Int32 × Int32 × AHeap) ⊕ ((Int32 × Int32 × AHeap)) → Prop} (k1 : ∀ s' : Int32 × Int32 × AHeap, Y (.inl s') → JW E kEng_apply 150 [some (.ref v0), some (.ref v1), some (.ref v2), some (.ref v3), some (.int v4), some (.int s'.1), some (.int s'.2.1), none] [] s'.2.2 0 0) (kx258 : ∀ q : Int32 × Int32 × AHeap, Y (.inr q) → JW E kEng_apply 258 [some (.ref v0), some (.ref v1), some (.ref v2), some (.ref v3), some (.int v4), some (.int q.1), some (.int q.2.1), none] [] q.2.2 0 0) (s : Int32 × Int32 × AHeap) : J E kEng_apply (Eng_apply_b150 v0 v1 v2 v3 v4 s) Y 150 [some (.ref v0), some (.ref v1), some (.ref v2), some (.ref v3), some (.int v4), some (.int s.1), some (.int s.2.1), none] [] s.2.2 0 0 := by
  unfold Eng_apply_b150
  refine J_iload (pc' := 152) ok (dOf dX3_apply 77 rfl) rfl rfl ?_
  refine J_aload_n (pc' := 153) ok (dOf dX3_apply 78 rfl) rfl rfl rfl ?_
  refine J_getI (ci := 6) (kf := 2) (C := RX6) (T := TX6) (N := 9) (pc' := 156) ok (dOf dX3_apply 79 rfl) rfl (by decide) rfl (by decide) win_6 wfl_X3_65 (fun x20 => ?_)
  refine J_icmp_ge (tgt := 258) (pc' := 159) ok (dOf dX3_apply 80 rfl) rfl (by decide) ?_ ?_
  · exact J_fin (kx258 (s.1, s.2.1, s.2.2))
  · refine J_aload_n (pc' := 160) ok (dOf dX3_apply 81 rfl) rfl rfl rfl ?_
    refine J_getR (ci := 3) (kf := 4) (C := RX3) (T := TX3) (N := 12) (pc' := 163) ok (dOf dX3_apply 82 rfl) rfl (by decide) rfl (by decide) win_3 wfl_X3_32 (fun a21 => ?_)
    refine J_iload (pc' := 165) ok (dOf dX3_apply 83 rfl) rfl rfl ?_
    refine J_zald (pc' := 166) ok (dOf dX3_apply 84 rfl) rfl (fun x22 => ?_)
    refine J_if_eq (tgt := 252) (pc' := 169) ok (dOf dX3_apply 85 rfl) rfl (by decide) ?_ ?_
    · exact Eng_apply_j252_J ok v0 v1 v2 v3 v4 s.1 s.2.1 s.2.2 k1 kx258
    · refine J_aload_n (pc' := 170) ok (dOf dX3_apply 86 rfl) rfl rfl rfl ?_
      refine J_getR (ci := 3) (kf := 0) (C := RX3) (T := TX3) (N := 12) (pc' := 173) ok (dOf dX3_apply 87 rfl) rfl (by decide) rfl (by decide) win_3 wfl_X3_12 (fun a23 => ?_)
      refine J_getR (ci := 0) (kf := 0) (C := RX0) (T := TX0) (N := 2) (pc' := 176) ok (dOf dX3_apply 88 rfl) rfl (by decide) rfl (by decide) win_0 wfl_X3_150 (fun a24 => ?_)
      refine J_aload_n (pc' := 177) ok (dOf dX3_apply 89 rfl) rfl rfl rfl ?_
      refine J_iload (pc' := 179) ok (dOf dX3_apply 90 rfl) rfl rfl ?_
      refine J_aload_n (pc' := 180) ok (dOf dX3_apply 91 rfl) rfl rfl rfl ?_
      refine J_getI (ci := 3) (kf := 6) (C := RX3) (T := TX3) (N := 12) (pc' := 183) ok (dOf dX3_apply 92 rfl) rfl (by decide) rfl (by decide) win_3 wfl_X3_61 (fun x25 => ?_)
      refine J_callVi (k2 := kFrt_findRates) (ci := 4) (T := TX4) (N := 12) (as := [.ref v1, .int s.2.1, .int x25]) (pc' := 186) ok (dOf dX3_apply 93 rfl) rfl (cw_Frt_findRates (by decide) (by decide)) wml_X3_178 winst_X4_findRates wsel_X4_findRates rfl ⟨Nat.le_refl 0, Nat.le_refl 0⟩ (Nat.le_of_ble_eq_true rfl) rfl (fun _ _ hf => t_Frt_findRates hf) (fun x27 h26 => ?_)
      refine J_istore (ls' := [some (.ref v0), some (.ref v1), some (.ref v2), some (.ref v3), some (.int v4), some (.int s.1), some (.int s.2.1), some (.int x27)]) (pc' := 188) ok (dOf dX3_apply 94 rfl) rfl (Nat.le_of_ble_eq_true rfl) rfl rfl ?_
      refine J_aload_n (pc' := 189) ok (dOf dX3_apply 95 rfl) rfl rfl rfl ?_
      refine J_iload (pc' := 191) ok (dOf dX3_apply 96 rfl) rfl rfl ?_
      refine J_iload (pc' := 193) ok (dOf dX3_apply 97 rfl) rfl rfl ?_
      refine J_if_eq (tgt := 200) (pc' := 196) ok (dOf dX3_apply 98 rfl) rfl (by decide) ?_ ?_
      · refine J_iconst (v := 0) (pc' := 201) ok (dOf dX3_apply 101 rfl) rfl (by decide) ?_
        exact Eng_apply_j201_J ok v0 v1 v2 v3 v4 s.1 s.2.1 x27 v2 s.2.1 0 h26 k1 kx258
      · refine J_iconst (v := 1) (pc' := 197) ok (dOf dX3_apply 99 rfl) rfl (by decide) ?_
        refine J_goto (tgt := 201) ok (dOf dX3_apply 100 rfl) (by decide) ?_
        exact Eng_apply_j201_J ok v0 v1 v2 v3 v4 s.1 s.2.1 x27 v2 s.2.1 1 h26 k1 kx258
def Eng_apply_j258 (v0 : Nat) (v1 : Nat) (v2 : Nat) (v3 : Nat) (v4 : Int32) (v5 : Int32) (v6 : Int32) (h : AHeap) : Option (Int32 × AHeap) :=
  some (v5, h)
theorem Eng_apply_j258_J {E : JE} {l : Launch} {G : GX} {v : Int32} {h' : AHeap} (ok : JOK E l G kEng_apply 0 0 (some (.int v)) h') (v0 : Nat) (v1 : Nat) (v2 : Nat) (v3 : Nat) (v4 : Int32) (v5 : Int32) (v6 : Int32) (h : AHeap) : J E kEng_apply (Eng_apply_j258 v0 v1 v2 v3 v4 v5 v6 h) (fun z => z = (v, h')) 258 [some (.ref v0), some (.ref v1), some (.ref v2), some (.ref v3), some (.int v4), some (.int v5), some (.int v6), none] [] h 0 0 := by
  unfold Eng_apply_j258
  refine J_iload (pc' := 260) ok (dOf dX3_apply 127 rfl) rfl rfl ?_
  exact J_ireturn ok (dOf dX3_apply 128 rfl) rfl (Eq.refl 0) (Nat.le_refl 0)
def Eng_apply_j144 (v0 : Nat) (v1 : Nat) (v2 : Nat) (v3 : Nat) (v4 : Int32) (h : AHeap) : Option (Int32 × AHeap) :=
  (iter (Eng_apply_b150 v0 v1 v2 v3 v4) Lmax (0, 0, h)).bind (fun (q150 : Int32 × Int32 × AHeap) => Eng_apply_j258 v0 v1 v2 v3 v4 q150.1 q150.2.1 q150.2.2)
theorem Eng_apply_j144_J {E : JE} {l : Launch} {G : GX} {v : Int32} {h' : AHeap} (ok : JOK E l G kEng_apply 0 0 (some (.int v)) h') (v0 : Nat) (v1 : Nat) (v2 : Nat) (v3 : Nat) (v4 : Int32) (h : AHeap) : J E kEng_apply (Eng_apply_j144 v0 v1 v2 v3 v4 h) (fun z => z = (v, h')) 144 [some (.ref v0), some (.ref v1), some (.ref v2), some (.ref v3), some (.int v4), none, none, none] [] h 0 0 := by
  unfold Eng_apply_j144
  refine J_iconst (v := 0) (pc' := 145) ok (dOf dX3_apply 73 rfl) rfl (by decide) ?_
  refine J_istore (ls' := [some (.ref v0), some (.ref v1), some (.ref v2), some (.ref v3), some (.int v4), some (.int 0), none, none]) (pc' := 147) ok (dOf dX3_apply 74 rfl) rfl (Nat.le_of_ble_eq_true rfl) rfl rfl ?_
  refine J_iconst (v := 0) (pc' := 148) ok (dOf dX3_apply 75 rfl) rfl (by decide) ?_
  refine J_istore (ls' := [some (.ref v0), some (.ref v1), some (.ref v2), some (.ref v3), some (.int v4), some (.int 0), some (.int 0), none]) (pc' := 150) ok (dOf dX3_apply 76 rfl) rfl (Nat.le_of_ble_eq_true rfl) rfl rfl ?_
  refine J_iter (lf := fun z150 => [some (.ref v0), some (.ref v1), some (.ref v2), some (.ref v3), some (.int v4), some (.int z150.1), some (.int z150.2.1), none]) (sf := fun _ => []) (hf := fun z150 => z150.2.2) (px := (fun (q150 : Int32 × Int32 × AHeap) => 258)) (lx := (fun (q150 : Int32 × Int32 × AHeap) => [some (.ref v0), some (.ref v1), some (.ref v2), some (.ref v3), some (.int v4), some (.int q150.1), some (.int q150.2.1), none])) (sx := (fun (q150 : Int32 × Int32 × AHeap) => [])) (hx := (fun (q150 : Int32 × Int32 × AHeap) => q150.2.2)) (fun Y2 z150 m1 m2 => Eng_apply_b150_J ok v0 v1 v2 v3 v4 m1 m2 z150) (fun q150 => ?_) Lmax _
  exact Eng_apply_j258_J ok v0 v1 v2 v3 v4 q150.1 q150.2.1 q150.2.2
def Eng_apply_j141 (v0 : Nat) (v1 : Nat) (v2 : Nat) (v3 : Nat) (v4 : Int32) (v5 : Int32) (t0 : Nat) (t1 : Int32) (h : AHeap) : Option (Int32 × AHeap) :=
  (bz t1).bind fun x48 => (pfV h t0 1 0 (.int x48)).bind fun h47 => Eng_apply_j144 v0 v1 v2 v3 v4 h47
theorem Eng_apply_j141_J {E : JE} {l : Launch} {G : GX} {v : Int32} {h' : AHeap} (ok : JOK E l G kEng_apply 0 0 (some (.int v)) h') (v0 : Nat) (v1 : Nat) (v2 : Nat) (v3 : Nat) (v4 : Int32) (v5 : Int32) (t0 : Nat) (t1 : Int32) (h : AHeap) : J E kEng_apply (Eng_apply_j141 v0 v1 v2 v3 v4 v5 t0 t1 h) (fun z => z = (v, h')) 141 [some (.ref v0), some (.ref v1), some (.ref v2), some (.ref v3), some (.int v4), some (.int v5), none, none] [.int t1, .ref t0] h 0 0 := by
  unfold Eng_apply_j141
  refine J_putZ (ci := 1) (kf := 0) (C := RX1) (T := TX1) (N := 3) (pc' := 144) ok tyX1 (dOf dX3_apply 72 rfl) rfl rfl (by decide) win_1 tyX1_ok nmX1 rfl rfl wfl_X3_175 (fun h47 _ => ?_)
  refine J_weak (ls' := [some (.ref v0), some (.ref v1), some (.ref v2), some (.ref v3), some (.int v4), none, none, none]) ⟨rfl, rfl, rfl, rfl, rfl, trivial⟩ ?_
  exact Eng_apply_j144_J ok v0 v1 v2 v3 v4 h47
def Eng_apply_j136 (v0 : Nat) (v1 : Nat) (v2 : Nat) (v3 : Nat) (v4 : Int32) (v5 : Int32) (t0 : Nat) (h : AHeap) : Option (Int32 × AHeap) :=
  Eng_apply_j141 v0 v1 v2 v3 v4 v5 t0 1 h
theorem Eng_apply_j136_J {E : JE} {l : Launch} {G : GX} {v : Int32} {h' : AHeap} (ok : JOK E l G kEng_apply 0 0 (some (.int v)) h') (v0 : Nat) (v1 : Nat) (v2 : Nat) (v3 : Nat) (v4 : Int32) (v5 : Int32) (t0 : Nat) (h : AHeap) : J E kEng_apply (Eng_apply_j136 v0 v1 v2 v3 v4 v5 t0 h) (fun z => z = (v, h')) 136 [some (.ref v0), some (.ref v1), some (.ref v2), some (.ref v3), some (.int v4), some (.int v5), none, none] [.ref t0] h 0 0 := by
  unfold Eng_apply_j136
  refine J_iconst (v := 1) (pc' := 137) ok (dOf dX3_apply 69 rfl) rfl (by decide) ?_
  refine J_goto (tgt := 141) ok (dOf dX3_apply 70 rfl) (by decide) ?_
  exact Eng_apply_j141_J ok v0 v1 v2 v3 v4 v5 t0 1 h
def Eng_apply (v0 : Nat) (v1 : Nat) (v2 : Nat) (v3 : Nat) (v4 : Int32) (h : AHeap) : Option (Int32 × AHeap) :=
  (gfI h v3 7 5).bind fun x1 => (pfV h v3 7 5 (.int (x1 + 1))).bind fun h2 => (gfI h2 v0 3 7).bind fun x3 => (pfV h2 v3 7 0 (.int x3)).bind fun h4 => (gfI h4 v0 3 6).bind fun x5 => (pfV h4 v3 7 4 (.int x5)).bind fun h6 => (gfI h6 v0 3 6).bind fun x7 => (if ¬ x7 = (-1) then (gfI h6 v0 3 8).bind fun x8 => (pfV h6 v3 7 1 (.int x8)).bind fun h9 => (gfI h9 v0 3 9).bind fun x10 => (pfV h9 v3 7 2 (.int x10)).bind fun h11 => (gfI h11 v0 3 10).bind fun x12 => (pfV h11 v3 7 3 (.int x12)).bind fun h13 => (gfR h13 v0 3 5).bind fun a14 => (gfR h13 v2 2 4).bind fun a15 => (gfI h13 v2 2 1).bind fun x16 => (acp h13 a14 0 a15 0 x16).bind fun h17 => (gfI h17 v0 3 7).bind fun x18 => (if x18 = 0 then (gfI h17 v0 3 11).bind fun x19 => (if x19 = 0 then Eng_apply_j144 v0 v1 v2 v3 v4 h17 else (if v4 = 0 then Eng_apply_j144 v0 v1 v2 v3 v4 h17 else (chk h17 v2 2).bind fun _ => bnd2 (Cuts_dropAged v2 v4 h17) fun x41 h40 => (gfI h40 v3 7 6).bind fun x42 => (pfV h40 v3 7 6 (.int (x42 + x41))).bind fun h43 => (gfR h43 v0 3 1).bind fun a44 => (gfR h43 v0 3 1).bind fun a45 => (gfI h43 a45 1 0).bind fun x46 => (if ¬ x46 = 0 then Eng_apply_j136 v0 v1 v2 v3 v4 x41 a44 h43 else (if x41 ≤ 0 then Eng_apply_j141 v0 v1 v2 v3 v4 x41 a44 0 h43 else Eng_apply_j136 v0 v1 v2 v3 v4 x41 a44 h43)))) else some (0, h17)) else some (0, h6))
theorem t_Eng_apply {l : Launch} {G : GX} {v0 : Nat} {v1 : Nat} {v2 : Nat} {v3 : Nat} {v4 : Int32} {h : AHeap} {v : Int32} {h1 : AHeap} (hf : Eng_apply v0 v1 v2 v3 v4 h = some (v, h1)) : CT l G kEng_apply 0 0 [.ref v0, .ref v1, .ref v2, .ref v3, .int v4] h (some (.int v)) h1 := by
  refine CT_of (ls := [some (.ref v0), some (.ref v1), some (.ref v2), some (.ref v3), some (.int v4), none, none, none]) (Z := fun z => z = (v, h1)) (by decide +kernel) (Nat.le_of_ble_eq_true rfl) hf rfl ⟨rfl, rfl, rfl, rfl, rfl, trivial⟩ (fun E ok => ?_)
  unfold Eng_apply
  refine J_aload_n (pc' := 1) ok (dOf dX3_apply 0 rfl) rfl rfl rfl ?_
  refine J_dup (pc' := 2) ok (dOf dX3_apply 1 rfl) rfl rfl ?_
  refine J_getI (ci := 7) (kf := 5) (C := RX7) (T := TX7) (N := 7) (pc' := 5) ok (dOf dX3_apply 2 rfl) rfl (by decide) rfl (by decide) win_7 wfl_X3_159 (fun x1 => ?_)
  refine J_iconst (v := 1) (pc' := 6) ok (dOf dX3_apply 3 rfl) rfl (by decide) ?_
  refine J_iadd (pc' := 7) ok (dOf dX3_apply 4 rfl) rfl ?_
  refine J_putI (ci := 7) (kf := 5) (C := RX7) (T := TX7) (N := 7) (pc' := 10) ok tyX7 (dOf dX3_apply 5 rfl) rfl rfl (by decide) win_7 tyX7_ok nmX7 rfl rfl wfl_X3_159 (fun h2 _ => ?_)
  refine J_aload_n (pc' := 11) ok (dOf dX3_apply 6 rfl) rfl rfl rfl ?_
  refine J_aload_n (pc' := 12) ok (dOf dX3_apply 7 rfl) rfl rfl rfl ?_
  refine J_getI (ci := 3) (kf := 7) (C := RX3) (T := TX3) (N := 12) (pc' := 15) ok (dOf dX3_apply 8 rfl) rfl (by decide) rfl (by decide) win_3 wfl_X3_64 (fun x3 => ?_)
  refine J_putI (ci := 7) (kf := 0) (C := RX7) (T := TX7) (N := 7) (pc' := 18) ok tyX7 (dOf dX3_apply 9 rfl) rfl rfl (by decide) win_7 tyX7_ok nmX7 rfl rfl wfl_X3_39 (fun h4 _ => ?_)
  refine J_aload_n (pc' := 19) ok (dOf dX3_apply 10 rfl) rfl rfl rfl ?_
  refine J_aload_n (pc' := 20) ok (dOf dX3_apply 11 rfl) rfl rfl rfl ?_
  refine J_getI (ci := 3) (kf := 6) (C := RX3) (T := TX3) (N := 12) (pc' := 23) ok (dOf dX3_apply 12 rfl) rfl (by decide) rfl (by decide) win_3 wfl_X3_61 (fun x5 => ?_)
  refine J_putI (ci := 7) (kf := 4) (C := RX7) (T := TX7) (N := 7) (pc' := 26) ok tyX7 (dOf dX3_apply 13 rfl) rfl rfl (by decide) win_7 tyX7_ok nmX7 rfl rfl wfl_X3_162 (fun h6 _ => ?_)
  refine J_aload_n (pc' := 27) ok (dOf dX3_apply 14 rfl) rfl rfl rfl ?_
  refine J_getI (ci := 3) (kf := 6) (C := RX3) (T := TX3) (N := 12) (pc' := 30) ok (dOf dX3_apply 15 rfl) rfl (by decide) rfl (by decide) win_3 wfl_X3_61 (fun x7 => ?_)
  refine J_iconst (v := (-1)) (pc' := 31) ok (dOf dX3_apply 16 rfl) rfl (by decide) ?_
  refine J_icmp_ne (tgt := 36) (pc' := 34) ok (dOf dX3_apply 17 rfl) rfl (by decide) ?_ ?_
  · refine J_aload_n (pc' := 37) ok (dOf dX3_apply 20 rfl) rfl rfl rfl ?_
    refine J_aload_n (pc' := 38) ok (dOf dX3_apply 21 rfl) rfl rfl rfl ?_
    refine J_getI (ci := 3) (kf := 8) (C := RX3) (T := TX3) (N := 12) (pc' := 41) ok (dOf dX3_apply 22 rfl) rfl (by decide) rfl (by decide) win_3 wfl_X3_124 (fun x8 => ?_)
    refine J_putI (ci := 7) (kf := 1) (C := RX7) (T := TX7) (N := 7) (pc' := 44) ok tyX7 (dOf dX3_apply 23 rfl) rfl rfl (by decide) win_7 tyX7_ok nmX7 rfl rfl wfl_X3_117 (fun h9 _ => ?_)
    refine J_aload_n (pc' := 45) ok (dOf dX3_apply 24 rfl) rfl rfl rfl ?_
    refine J_aload_n (pc' := 46) ok (dOf dX3_apply 25 rfl) rfl rfl rfl ?_
    refine J_getI (ci := 3) (kf := 9) (C := RX3) (T := TX3) (N := 12) (pc' := 49) ok (dOf dX3_apply 26 rfl) rfl (by decide) rfl (by decide) win_3 wfl_X3_131 (fun x10 => ?_)
    refine J_putI (ci := 7) (kf := 2) (C := RX7) (T := TX7) (N := 7) (pc' := 52) ok tyX7 (dOf dX3_apply 27 rfl) rfl rfl (by decide) win_7 tyX7_ok nmX7 rfl rfl wfl_X3_128 (fun h11 _ => ?_)
    refine J_aload_n (pc' := 53) ok (dOf dX3_apply 28 rfl) rfl rfl rfl ?_
    refine J_aload_n (pc' := 54) ok (dOf dX3_apply 29 rfl) rfl rfl rfl ?_
    refine J_getI (ci := 3) (kf := 10) (C := RX3) (T := TX3) (N := 12) (pc' := 57) ok (dOf dX3_apply 30 rfl) rfl (by decide) rfl (by decide) win_3 wfl_X3_135 (fun x12 => ?_)
    refine J_putI (ci := 7) (kf := 3) (C := RX7) (T := TX7) (N := 7) (pc' := 60) ok tyX7 (dOf dX3_apply 31 rfl) rfl rfl (by decide) win_7 tyX7_ok nmX7 rfl rfl wfl_X3_132 (fun h13 _ => ?_)
    refine J_aload_n (pc' := 61) ok (dOf dX3_apply 32 rfl) rfl rfl rfl ?_
    refine J_getR (ci := 3) (kf := 5) (C := RX3) (T := TX3) (N := 12) (pc' := 64) ok (dOf dX3_apply 33 rfl) rfl (by decide) rfl (by decide) win_3 wfl_X3_36 (fun a14 => ?_)
    refine J_iconst (v := 0) (pc' := 65) ok (dOf dX3_apply 34 rfl) rfl (by decide) ?_
    refine J_aload_n (pc' := 66) ok (dOf dX3_apply 35 rfl) rfl rfl rfl ?_
    refine J_getR (ci := 2) (kf := 4) (C := RX2) (T := TX2) (N := 7) (pc' := 69) ok (dOf dX3_apply 36 rfl) rfl (by decide) rfl (by decide) win_2 wfl_X3_107 (fun a15 => ?_)
    refine J_iconst (v := 0) (pc' := 70) ok (dOf dX3_apply 37 rfl) rfl (by decide) ?_
    refine J_aload_n (pc' := 71) ok (dOf dX3_apply 38 rfl) rfl rfl rfl ?_
    refine J_getI (ci := 2) (kf := 1) (C := RX2) (T := TX2) (N := 7) (pc' := 74) ok (dOf dX3_apply 39 rfl) rfl (by decide) rfl (by decide) win_2 wfl_X3_94 (fun x16 => ?_)
    refine J_acp (pc' := 77) ok (dOf dX3_apply 40 rfl) rfl wml_X3_163 wnat_java_lang_System_arraycopy wstat_java_lang_System_arraycopy wini_java_lang_System (Nat.le_of_ble_eq_true rfl) (Nat.le_of_ble_eq_true rfl) (fun h17 _ => ?_)
    refine J_aload_n (pc' := 78) ok (dOf dX3_apply 41 rfl) rfl rfl rfl ?_
    refine J_getI (ci := 3) (kf := 7) (C := RX3) (T := TX3) (N := 12) (pc' := 81) ok (dOf dX3_apply 42 rfl) rfl (by decide) rfl (by decide) win_3 wfl_X3_64 (fun x18 => ?_)
    refine J_if_eq (tgt := 86) (pc' := 84) ok (dOf dX3_apply 43 rfl) rfl (by decide) ?_ ?_
    · refine J_aload_n (pc' := 87) ok (dOf dX3_apply 46 rfl) rfl rfl rfl ?_
      refine J_getI (ci := 3) (kf := 11) (C := RX3) (T := TX3) (N := 12) (pc' := 90) ok (dOf dX3_apply 47 rfl) rfl (by decide) rfl (by decide) win_3 wfl_X3_120 (fun x19 => ?_)
      refine J_if_eq (tgt := 144) (pc' := 93) ok (dOf dX3_apply 48 rfl) rfl (by decide) ?_ ?_
      · exact Eng_apply_j144_J ok v0 v1 v2 v3 v4 h17
      · refine J_iload (pc' := 95) ok (dOf dX3_apply 49 rfl) rfl rfl ?_
        refine J_if_eq (tgt := 144) (pc' := 98) ok (dOf dX3_apply 50 rfl) rfl (by decide) ?_ ?_
        · exact Eng_apply_j144_J ok v0 v1 v2 v3 v4 h17
        · refine J_aload_n (pc' := 99) ok (dOf dX3_apply 51 rfl) rfl rfl rfl ?_
          refine J_iload (pc' := 101) ok (dOf dX3_apply 52 rfl) rfl rfl ?_
          refine J_callVi (k2 := kCuts_dropAged) (ci := 2) (T := TX2) (N := 7) (as := [.int v4]) (pc' := 104) ok (dOf dX3_apply 53 rfl) rfl (cw_Cuts_dropAged (by decide) (by decide)) wml_X3_169 winst_X2_dropAged wsel_X2_dropAged rfl ⟨Nat.le_refl 0, Nat.le_refl 0⟩ (Nat.le_of_ble_eq_true rfl) rfl (fun _ _ hf => t_Cuts_dropAged hf) (fun x41 h40 => ?_)
          refine J_istore (ls' := [some (.ref v0), some (.ref v1), some (.ref v2), some (.ref v3), some (.int v4), some (.int x41), none, none]) (pc' := 106) ok (dOf dX3_apply 54 rfl) rfl (Nat.le_of_ble_eq_true rfl) rfl rfl ?_
          refine J_aload_n (pc' := 107) ok (dOf dX3_apply 55 rfl) rfl rfl rfl ?_
          refine J_dup (pc' := 108) ok (dOf dX3_apply 56 rfl) rfl rfl ?_
          refine J_getI (ci := 7) (kf := 6) (C := RX7) (T := TX7) (N := 7) (pc' := 111) ok (dOf dX3_apply 57 rfl) rfl (by decide) rfl (by decide) win_7 wfl_X3_172 (fun x42 => ?_)
          refine J_iload (pc' := 113) ok (dOf dX3_apply 58 rfl) rfl rfl ?_
          refine J_iadd (pc' := 114) ok (dOf dX3_apply 59 rfl) rfl ?_
          refine J_putI (ci := 7) (kf := 6) (C := RX7) (T := TX7) (N := 7) (pc' := 117) ok tyX7 (dOf dX3_apply 60 rfl) rfl rfl (by decide) win_7 tyX7_ok nmX7 rfl rfl wfl_X3_172 (fun h43 _ => ?_)
          refine J_aload_n (pc' := 118) ok (dOf dX3_apply 61 rfl) rfl rfl rfl ?_
          refine J_getR (ci := 3) (kf := 1) (C := RX3) (T := TX3) (N := 12) (pc' := 121) ok (dOf dX3_apply 62 rfl) rfl (by decide) rfl (by decide) win_3 wfl_X3_21 (fun a44 => ?_)
          refine J_aload_n (pc' := 122) ok (dOf dX3_apply 63 rfl) rfl rfl rfl ?_
          refine J_getR (ci := 3) (kf := 1) (C := RX3) (T := TX3) (N := 12) (pc' := 125) ok (dOf dX3_apply 64 rfl) rfl (by decide) rfl (by decide) win_3 wfl_X3_21 (fun a45 => ?_)
          refine J_getI (ci := 1) (kf := 0) (C := RX1) (T := TX1) (N := 3) (pc' := 128) ok (dOf dX3_apply 65 rfl) rfl (by decide) rfl (by decide) win_1 wfl_X3_175 (fun x46 => ?_)
          refine J_if_ne (tgt := 136) (pc' := 131) ok (dOf dX3_apply 66 rfl) rfl (by decide) ?_ ?_
          · exact Eng_apply_j136_J ok v0 v1 v2 v3 v4 x41 a44 h43
          · refine J_iload (pc' := 133) ok (dOf dX3_apply 67 rfl) rfl rfl ?_
            refine J_if_le (tgt := 140) (pc' := 136) ok (dOf dX3_apply 68 rfl) rfl (by decide) ?_ ?_
            · refine J_iconst (v := 0) (pc' := 141) ok (dOf dX3_apply 71 rfl) rfl (by decide) ?_
              exact Eng_apply_j141_J ok v0 v1 v2 v3 v4 x41 a44 0 h43
            · exact Eng_apply_j136_J ok v0 v1 v2 v3 v4 x41 a44 h43
    · refine J_iconst (v := 0) (pc' := 85) ok (dOf dX3_apply 44 rfl) rfl (by decide) ?_
      exact J_ireturn ok (dOf dX3_apply 45 rfl) rfl (Eq.refl 0) (Nat.le_refl 0)
  · refine J_iconst (v := 0) (pc' := 35) ok (dOf dX3_apply 18 rfl) rfl (by decide) ?_
    exact J_ireturn ok (dOf dX3_apply 19 rfl) rfl (Eq.refl 0) (Nat.le_refl 0)
-- X10_round
abbrev kSp_round : Cd := (yX10_round, cX10_round, 1, (some .int), 6, 151)
theorem dX10_round : dcheck cX10_round [(0, .aload_n 0, 1), (1, .getfield 10, 3), (4, .getfield 187, 3), (7, .getfield 190, 3), (10, .ifCond .eq 10, 3), (13, .aload_n 0, 1), (14, .bipush (-3), 2), (16, .invokevirtual 81, 3), (19, .ireturn, 1), (20, .aload_n 0, 1), (21, .getfield 23, 3), (24, .aload_n 0, 1), (25, .getfield 10, 3), (28, .getfield 113, 3), (31, .aload_n 0, 1), (32, .getfield 10, 3), (35, .getfield 120, 3), (38, .aload_n 0, 1), (39, .getfield 10, 3), (42, .getfield 187, 3), (45, .aload_n 0, 1), (46, .getfield 16, 3), (49, .invokevirtual 193, 3), (52, .ifCond .ne 10, 3), (55, .aload_n 0, 1), (56, .bipush (-5), 2), (58, .invokevirtual 81, 3), (61, .ireturn, 1), (62, .aload_n 0, 1), (63, .getfield 44, 3), (66, .aload_n 0, 1), (67, .getfield 10, 3), (70, .bipush 7, 2), (72, .invokevirtual 109, 3), (75, .aload_n 0, 1), (76, .aload_n 0, 1), (77, .getfield 23, 3), (80, .aload_n 0, 1), (81, .getfield 10, 3), (84, .getfield 113, 3), (87, .aload_n 0, 1), (88, .getfield 10, 3), (91, .getfield 120, 3), (94, .aload_n 0, 1), (95, .getfield 10, 3), (98, .getfield 187, 3), (101, .aload_n 0, 1), (102, .getfield 16, 3), (105, .iconst 1, 1), (106, .iaload, 1), (107, .invokevirtual 197, 3), (110, .invokevirtual 91, 3), (113, .ireturn, 1)] = true := by decide +kernel
theorem cw_Sp_round {k : Cd} (h1 : kSp_round.2.2.2.2.1 + 1 ≤ k.2.2.2.2.1) (h2 : 8 + (kSp_round.2.2.1 + 11) + kSp_round.2.2.2.2.2 ≤ k.2.2.2.2.2) : Cw k kSp_round 0 := ⟨wcode_X10_round, wini_SplitProgram, ⟨by decide, by decide, by decide +kernel⟩, h1, h2⟩
def Sp_round (v0 : Nat) (h : AHeap) : Option (Int32 × AHeap) :=
  (gfR h v0 10 0).bind fun a1 => (gfR h a1 8 2).bind fun a2 => (gfI h a2 7 0).bind fun x3 => (if x3 = 0 then (gfR h v0 10 2).bind fun a4 => (gfR h v0 10 0).bind fun a5 => (gfR h a5 8 0).bind fun a6 => (gfR h v0 10 0).bind fun a7 => (gfR h a7 8 1).bind fun a8 => (gfR h v0 10 0).bind fun a9 => (gfR h a9 8 2).bind fun a10 => (gfR h v0 10 1).bind fun a11 => (chk h a4 3).bind fun _ => bnd2 (Eng_decide a4 a6 a8 a10 a11 h) fun x13 h12 => (if ¬ x13 = 0 then (gfR h12 v0 10 5).bind fun a14 => (gfR h12 v0 10 0).bind fun a15 => (chk h12 a14 5).bind fun _ => bnd2 (Hist_keep a14 a15 7 h12) fun _ h16 => (gfR h16 v0 10 2).bind fun a17 => (gfR h16 v0 10 0).bind fun a18 => (gfR h16 a18 8 0).bind fun a19 => (gfR h16 v0 10 0).bind fun a20 => (gfR h16 a20 8 1).bind fun a21 => (gfR h16 v0 10 0).bind fun a22 => (gfR h16 a22 8 2).bind fun a23 => (gfR h16 v0 10 1).bind fun a24 => (ald 0 h16 a24 1).bind fun x25 => (chk h16 a17 3).bind fun _ => bnd2 (Eng_apply a17 a19 a21 a23 x25 h16) fun x27 h26 => (chk h26 v0 10).bind fun _ => bnd2 (Sp_accept v0 x27 h26) fun x29 h28 => some (x29, h28) else (chk h12 v0 10).bind fun _ => bnd2 (Sp_refuse v0 (-5) h12) fun x31 h30 => some (x31, h30)) else (chk h v0 10).bind fun _ => bnd2 (Sp_refuse v0 (-3) h) fun x33 h32 => some (x33, h32))
theorem t_Sp_round {l : Launch} {G : GX} {v0 : Nat} {h : AHeap} {v : Int32} {h1 : AHeap} (hf : Sp_round v0 h = some (v, h1)) : CT l G kSp_round 0 0 [.ref v0] h (some (.int v)) h1 := by
  refine CT_of (ls := [some (.ref v0)]) (Z := fun z => z = (v, h1)) (by decide +kernel) (Nat.le_of_ble_eq_true rfl) hf rfl ⟨rfl, trivial⟩ (fun E ok => ?_)
  unfold Sp_round
  refine J_aload_n (pc' := 1) ok (dOf dX10_round 0 rfl) rfl rfl rfl ?_
  refine J_getR (ci := 10) (kf := 0) (C := RX10) (T := TX10) (N := 14) (pc' := 4) ok (dOf dX10_round 1 rfl) rfl (by decide) rfl (by decide) win_10 wfl_X10_10 (fun a1 => ?_)
  refine J_getR (ci := 8) (kf := 2) (C := RX8) (T := TX8) (N := 3) (pc' := 7) ok (dOf dX10_round 2 rfl) rfl (by decide) rfl (by decide) win_8 wfl_X10_187 (fun a2 => ?_)
  refine J_getI (ci := 7) (kf := 0) (C := RX7) (T := TX7) (N := 7) (pc' := 10) ok (dOf dX10_round 3 rfl) rfl (by decide) rfl (by decide) win_7 wfl_X10_190 (fun x3 => ?_)
  refine J_if_eq (tgt := 20) (pc' := 13) ok (dOf dX10_round 4 rfl) rfl (by decide) ?_ ?_
  · refine J_aload_n (pc' := 21) ok (dOf dX10_round 9 rfl) rfl rfl rfl ?_
    refine J_getR (ci := 10) (kf := 2) (C := RX10) (T := TX10) (N := 14) (pc' := 24) ok (dOf dX10_round 10 rfl) rfl (by decide) rfl (by decide) win_10 wfl_X10_23 (fun a4 => ?_)
    refine J_aload_n (pc' := 25) ok (dOf dX10_round 11 rfl) rfl rfl rfl ?_
    refine J_getR (ci := 10) (kf := 0) (C := RX10) (T := TX10) (N := 14) (pc' := 28) ok (dOf dX10_round 12 rfl) rfl (by decide) rfl (by decide) win_10 wfl_X10_10 (fun a5 => ?_)
    refine J_getR (ci := 8) (kf := 0) (C := RX8) (T := TX8) (N := 3) (pc' := 31) ok (dOf dX10_round 13 rfl) rfl (by decide) rfl (by decide) win_8 wfl_X10_113 (fun a6 => ?_)
    refine J_aload_n (pc' := 32) ok (dOf dX10_round 14 rfl) rfl rfl rfl ?_
    refine J_getR (ci := 10) (kf := 0) (C := RX10) (T := TX10) (N := 14) (pc' := 35) ok (dOf dX10_round 15 rfl) rfl (by decide) rfl (by decide) win_10 wfl_X10_10 (fun a7 => ?_)
    refine J_getR (ci := 8) (kf := 1) (C := RX8) (T := TX8) (N := 3) (pc' := 38) ok (dOf dX10_round 16 rfl) rfl (by decide) rfl (by decide) win_8 wfl_X10_120 (fun a8 => ?_)
    refine J_aload_n (pc' := 39) ok (dOf dX10_round 17 rfl) rfl rfl rfl ?_
    refine J_getR (ci := 10) (kf := 0) (C := RX10) (T := TX10) (N := 14) (pc' := 42) ok (dOf dX10_round 18 rfl) rfl (by decide) rfl (by decide) win_10 wfl_X10_10 (fun a9 => ?_)
    refine J_getR (ci := 8) (kf := 2) (C := RX8) (T := TX8) (N := 3) (pc' := 45) ok (dOf dX10_round 19 rfl) rfl (by decide) rfl (by decide) win_8 wfl_X10_187 (fun a10 => ?_)
    refine J_aload_n (pc' := 46) ok (dOf dX10_round 20 rfl) rfl rfl rfl ?_
    refine J_getR (ci := 10) (kf := 1) (C := RX10) (T := TX10) (N := 14) (pc' := 49) ok (dOf dX10_round 21 rfl) rfl (by decide) rfl (by decide) win_10 wfl_X10_16 (fun a11 => ?_)
    refine J_callVi (k2 := kEng_decide) (ci := 3) (T := TX3) (N := 12) (as := [.ref a6, .ref a8, .ref a10, .ref a11]) (pc' := 52) ok (dOf dX10_round 22 rfl) rfl (cw_Eng_decide (by decide) (by decide)) wml_X10_193 winst_X3_decide wsel_X3_decide rfl ⟨Nat.le_refl 0, Nat.le_refl 0⟩ (Nat.le_of_ble_eq_true rfl) rfl (fun _ _ hf => t_Eng_decide hf) (fun x13 h12 => ?_)
    refine J_if_ne (tgt := 62) (pc' := 55) ok (dOf dX10_round 23 rfl) rfl (by decide) ?_ ?_
    · refine J_aload_n (pc' := 63) ok (dOf dX10_round 28 rfl) rfl rfl rfl ?_
      refine J_getR (ci := 10) (kf := 5) (C := RX10) (T := TX10) (N := 14) (pc' := 66) ok (dOf dX10_round 29 rfl) rfl (by decide) rfl (by decide) win_10 wfl_X10_44 (fun a14 => ?_)
      refine J_aload_n (pc' := 67) ok (dOf dX10_round 30 rfl) rfl rfl rfl ?_
      refine J_getR (ci := 10) (kf := 0) (C := RX10) (T := TX10) (N := 14) (pc' := 70) ok (dOf dX10_round 31 rfl) rfl (by decide) rfl (by decide) win_10 wfl_X10_10 (fun a15 => ?_)
      refine J_bipush (v := 7) (pc' := 72) ok (dOf dX10_round 32 rfl) rfl (by decide) ?_
      refine J_callVv (k2 := kHist_keep) (ci := 5) (T := TX5) (N := 4) (as := [.ref a15, .int 7]) (pc' := 75) ok (dOf dX10_round 33 rfl) rfl (cw_Hist_keep (by decide) (by decide)) wml_X10_109 winst_X5_keep wsel_X5_keep rfl ⟨Nat.le_refl 0, Nat.le_refl 0⟩ (Nat.le_of_ble_eq_true rfl) rfl (fun _ _ hf => t_Hist_keep hf) (fun _ h16 => ?_)
      refine J_aload_n (pc' := 76) ok (dOf dX10_round 34 rfl) rfl rfl rfl ?_
      refine J_aload_n (pc' := 77) ok (dOf dX10_round 35 rfl) rfl rfl rfl ?_
      refine J_getR (ci := 10) (kf := 2) (C := RX10) (T := TX10) (N := 14) (pc' := 80) ok (dOf dX10_round 36 rfl) rfl (by decide) rfl (by decide) win_10 wfl_X10_23 (fun a17 => ?_)
      refine J_aload_n (pc' := 81) ok (dOf dX10_round 37 rfl) rfl rfl rfl ?_
      refine J_getR (ci := 10) (kf := 0) (C := RX10) (T := TX10) (N := 14) (pc' := 84) ok (dOf dX10_round 38 rfl) rfl (by decide) rfl (by decide) win_10 wfl_X10_10 (fun a18 => ?_)
      refine J_getR (ci := 8) (kf := 0) (C := RX8) (T := TX8) (N := 3) (pc' := 87) ok (dOf dX10_round 39 rfl) rfl (by decide) rfl (by decide) win_8 wfl_X10_113 (fun a19 => ?_)
      refine J_aload_n (pc' := 88) ok (dOf dX10_round 40 rfl) rfl rfl rfl ?_
      refine J_getR (ci := 10) (kf := 0) (C := RX10) (T := TX10) (N := 14) (pc' := 91) ok (dOf dX10_round 41 rfl) rfl (by decide) rfl (by decide) win_10 wfl_X10_10 (fun a20 => ?_)
      refine J_getR (ci := 8) (kf := 1) (C := RX8) (T := TX8) (N := 3) (pc' := 94) ok (dOf dX10_round 42 rfl) rfl (by decide) rfl (by decide) win_8 wfl_X10_120 (fun a21 => ?_)
      refine J_aload_n (pc' := 95) ok (dOf dX10_round 43 rfl) rfl rfl rfl ?_
      refine J_getR (ci := 10) (kf := 0) (C := RX10) (T := TX10) (N := 14) (pc' := 98) ok (dOf dX10_round 44 rfl) rfl (by decide) rfl (by decide) win_10 wfl_X10_10 (fun a22 => ?_)
      refine J_getR (ci := 8) (kf := 2) (C := RX8) (T := TX8) (N := 3) (pc' := 101) ok (dOf dX10_round 45 rfl) rfl (by decide) rfl (by decide) win_8 wfl_X10_187 (fun a23 => ?_)
      refine J_aload_n (pc' := 102) ok (dOf dX10_round 46 rfl) rfl rfl rfl ?_
      refine J_getR (ci := 10) (kf := 1) (C := RX10) (T := TX10) (N := 14) (pc' := 105) ok (dOf dX10_round 47 rfl) rfl (by decide) rfl (by decide) win_10 wfl_X10_16 (fun a24 => ?_)
      refine J_iconst (v := 1) (pc' := 106) ok (dOf dX10_round 48 rfl) rfl (by decide) ?_
      refine J_iald (pc' := 107) ok (dOf dX10_round 49 rfl) rfl (fun x25 => ?_)
      refine J_callVi (k2 := kEng_apply) (ci := 3) (T := TX3) (N := 12) (as := [.ref a19, .ref a21, .ref a23, .int x25]) (pc' := 110) ok (dOf dX10_round 50 rfl) rfl (cw_Eng_apply (by decide) (by decide)) wml_X10_197 winst_X3_apply wsel_X3_apply rfl ⟨Nat.le_refl 0, Nat.le_refl 0⟩ (Nat.le_of_ble_eq_true rfl) rfl (fun _ _ hf => t_Eng_apply hf) (fun x27 h26 => ?_)
      refine J_callVi (k2 := kSp_accept) (ci := 10) (T := TX10) (N := 14) (as := [.int x27]) (pc' := 113) ok (dOf dX10_round 51 rfl) rfl (cw_Sp_accept (by decide) (by decide)) wml_X10_91 winst_X10_accept wsel_X10_accept rfl ⟨Nat.le_refl 0, Nat.le_refl 0⟩ (Nat.le_of_ble_eq_true rfl) rfl (fun _ _ hf => t_Sp_accept hf) (fun x29 h28 => ?_)
      exact J_ireturn ok (dOf dX10_round 52 rfl) rfl (Eq.refl 0) (Nat.le_refl 0)
    · refine J_aload_n (pc' := 56) ok (dOf dX10_round 24 rfl) rfl rfl rfl ?_
      refine J_bipush (v := (-5)) (pc' := 58) ok (dOf dX10_round 25 rfl) rfl (by decide) ?_
      refine J_callVi (k2 := kSp_refuse) (ci := 10) (T := TX10) (N := 14) (as := [.int (-5)]) (pc' := 61) ok (dOf dX10_round 26 rfl) rfl (cw_Sp_refuse (by decide) (by decide)) wml_X10_81 winst_X10_refuse wsel_X10_refuse rfl ⟨Nat.le_refl 0, Nat.le_refl 0⟩ (Nat.le_of_ble_eq_true rfl) rfl (fun _ _ hf => t_Sp_refuse hf) (fun x31 h30 => ?_)
      exact J_ireturn ok (dOf dX10_round 27 rfl) rfl (Eq.refl 0) (Nat.le_refl 0)
  · refine J_aload_n (pc' := 14) ok (dOf dX10_round 5 rfl) rfl rfl rfl ?_
    refine J_bipush (v := (-3)) (pc' := 16) ok (dOf dX10_round 6 rfl) rfl (by decide) ?_
    refine J_callVi (k2 := kSp_refuse) (ci := 10) (T := TX10) (N := 14) (as := [.int (-3)]) (pc' := 19) ok (dOf dX10_round 7 rfl) rfl (cw_Sp_refuse (by decide) (by decide)) wml_X10_81 winst_X10_refuse wsel_X10_refuse rfl ⟨Nat.le_refl 0, Nat.le_refl 0⟩ (Nat.le_of_ble_eq_true rfl) rfl (fun _ _ hf => t_Sp_refuse hf) (fun x33 h32 => ?_)
    exact J_ireturn ok (dOf dX10_round 8 rfl) rfl (Eq.refl 0) (Nat.le_refl 0)
-- X3_run
abbrev kEng_run : Cd := (yX3_run, cX3_run, 8, (some .int), 6, 151)
theorem dX3_run : dcheck cX3_run [(0, .iconst 0, 1), (1, .istore 6, 2), (3, .iconst 0, 1), (4, .istore 7, 2), (6, .iload 7, 2), (8, .iload 5, 2), (10, .if_icmp .ge 46, 3), (13, .aload_n 3, 1), (14, .getfield 39, 3), (17, .ifCond .ne 39, 3), (20, .aload_n 0, 1), (21, .aload_n 1, 1), (22, .aload_n 2, 1), (23, .aload_n 3, 1), (24, .aload 4, 2), (26, .invokevirtual 45, 3), (29, .ifCond .ne 6, 3), (32, .iload 6, 2), (34, .ireturn, 1), (35, .aload_n 0, 1), (36, .aload_n 1, 1), (37, .aload_n 2, 1), (38, .aload_n 3, 1), (39, .aload 4, 2), (41, .iconst 1, 1), (42, .iaload, 1), (43, .invokevirtual 49, 3), (46, .pop, 1), (47, .iinc 6 1, 3), (50, .iinc 7 1, 3), (53, .goto (-47), 3), (56, .iload 6, 2), (58, .ireturn, 1)] = true := by decide +kernel
theorem cw_Eng_run {k : Cd} (h1 : kEng_run.2.2.2.2.1 + 1 ≤ k.2.2.2.2.1) (h2 : 8 + (kEng_run.2.2.1 + 11) + kEng_run.2.2.2.2.2 ≤ k.2.2.2.2.2) : Cw k kEng_run 5 := ⟨wcode_X3_run, wini_SplitProgram_Engine, ⟨by decide, by decide, by decide +kernel⟩, h1, h2⟩
def Eng_run_b6 (v0 : Nat) (v1 : Nat) (v2 : Nat) (v3 : Nat) (v4 : Nat) (v5 : Int32) (s : Int32 × Int32 × AHeap) : Option ((Int32 × Int32 × AHeap) ⊕ ((Int32 × Int32 × AHeap) ⊕ (Int32 × Int32 × AHeap))) :=
  (if v5 ≤ s.2.1 then some (Sum.inr (Sum.inr (s.1, s.2.1, s.2.2))) else (gfI s.2.2 v3 7 0).bind fun x1 => (if ¬ x1 = 0 then some (Sum.inr (Sum.inr (s.1, s.2.1, s.2.2))) else (chk s.2.2 v0 3).bind fun _ => bnd2 (Eng_decide v0 v1 v2 v3 v4 s.2.2) fun x3 h2 => (if ¬ x3 = 0 then (ald 0 h2 v4 1).bind fun x4 => (chk h2 v0 3).bind fun _ => bnd2 (Eng_apply v0 v1 v2 v3 x4 h2) fun x6 h5 => some (Sum.inl (s.1 + 1, s.2.1 + 1, h5)) else some (Sum.inr (Sum.inl (s.1, s.2.1, h2))))))
theorem Eng_run_b6_J {E : JE} {l : Launch} {G : GX} {r : Option Value} {h' : AHeap} (ok : JOK E l G kEng_run 0 0 r h') (v0 : Nat) (v1 : Nat) (v2 : Nat) (v3 : Nat) (v4 : Nat) (v5 : Int32) {Y : (Int32 × Int32 × AHeap) ⊕ ((Int32 × Int32 × AHeap) ⊕ (Int32 × Int32 × AHeap)) → Prop} (k1 : ∀ s' : Int32 × Int32 × AHeap, Y (.inl s') → JW E kEng_run 6 [some (.ref v0), some (.ref v1), some (.ref v2), some (.ref v3), some (.ref v4), some (.int v5), some (.int s'.1), some (.int s'.2.1)] [] s'.2.2 0 0) (kx32 : ∀ q : Int32 × Int32 × AHeap, Y (.inr (Sum.inl q)) → JW E kEng_run 32 [some (.ref v0), some (.ref v1), some (.ref v2), some (.ref v3), some (.ref v4), some (.int v5), some (.int q.1), some (.int q.2.1)] [] q.2.2 0 0) (kx56 : ∀ q : Int32 × Int32 × AHeap, Y (.inr (Sum.inr q)) → JW E kEng_run 56 [some (.ref v0), some (.ref v1), some (.ref v2), some (.ref v3), some (.ref v4), some (.int v5), some (.int q.1), some (.int q.2.1)] [] q.2.2 0 0) (s : Int32 × Int32 × AHeap) : J E kEng_run (Eng_run_b6 v0 v1 v2 v3 v4 v5 s) Y 6 [some (.ref v0), some (.ref v1), some (.ref v2), some (.ref v3), some (.ref v4), some (.int v5), some (.int s.1), some (.int s.2.1)] [] s.2.2 0 0 := by
  unfold Eng_run_b6
  refine J_iload (pc' := 8) ok (dOf dX3_run 4 rfl) rfl rfl ?_
  refine J_iload (pc' := 10) ok (dOf dX3_run 5 rfl) rfl rfl ?_
  refine J_icmp_ge (tgt := 56) (pc' := 13) ok (dOf dX3_run 6 rfl) rfl (by decide) ?_ ?_
  · exact J_fin (kx56 (s.1, s.2.1, s.2.2))
  · refine J_aload_n (pc' := 14) ok (dOf dX3_run 7 rfl) rfl rfl rfl ?_
    refine J_getI (ci := 7) (kf := 0) (C := RX7) (T := TX7) (N := 7) (pc' := 17) ok (dOf dX3_run 8 rfl) rfl (by decide) rfl (by decide) win_7 wfl_X3_39 (fun x1 => ?_)
    refine J_if_ne (tgt := 56) (pc' := 20) ok (dOf dX3_run 9 rfl) rfl (by decide) ?_ ?_
    · exact J_fin (kx56 (s.1, s.2.1, s.2.2))
    · refine J_aload_n (pc' := 21) ok (dOf dX3_run 10 rfl) rfl rfl rfl ?_
      refine J_aload_n (pc' := 22) ok (dOf dX3_run 11 rfl) rfl rfl rfl ?_
      refine J_aload_n (pc' := 23) ok (dOf dX3_run 12 rfl) rfl rfl rfl ?_
      refine J_aload_n (pc' := 24) ok (dOf dX3_run 13 rfl) rfl rfl rfl ?_
      refine J_aload (pc' := 26) ok (dOf dX3_run 14 rfl) rfl rfl ?_
      refine J_callVi (k2 := kEng_decide) (ci := 3) (T := TX3) (N := 12) (as := [.ref v1, .ref v2, .ref v3, .ref v4]) (pc' := 29) ok (dOf dX3_run 15 rfl) rfl (cw_Eng_decide (by decide) (by decide)) wml_X3_45 winst_X3_decide wsel_X3_decide rfl ⟨Nat.le_refl 0, Nat.le_refl 0⟩ (Nat.le_of_ble_eq_true rfl) rfl (fun _ _ hf => t_Eng_decide hf) (fun x3 h2 => ?_)
      refine J_if_ne (tgt := 35) (pc' := 32) ok (dOf dX3_run 16 rfl) rfl (by decide) ?_ ?_
      · refine J_aload_n (pc' := 36) ok (dOf dX3_run 19 rfl) rfl rfl rfl ?_
        refine J_aload_n (pc' := 37) ok (dOf dX3_run 20 rfl) rfl rfl rfl ?_
        refine J_aload_n (pc' := 38) ok (dOf dX3_run 21 rfl) rfl rfl rfl ?_
        refine J_aload_n (pc' := 39) ok (dOf dX3_run 22 rfl) rfl rfl rfl ?_
        refine J_aload (pc' := 41) ok (dOf dX3_run 23 rfl) rfl rfl ?_
        refine J_iconst (v := 1) (pc' := 42) ok (dOf dX3_run 24 rfl) rfl (by decide) ?_
        refine J_iald (pc' := 43) ok (dOf dX3_run 25 rfl) rfl (fun x4 => ?_)
        refine J_callVi (k2 := kEng_apply) (ci := 3) (T := TX3) (N := 12) (as := [.ref v1, .ref v2, .ref v3, .int x4]) (pc' := 46) ok (dOf dX3_run 26 rfl) rfl (cw_Eng_apply (by decide) (by decide)) wml_X3_49 winst_X3_apply wsel_X3_apply rfl ⟨Nat.le_refl 0, Nat.le_refl 0⟩ (Nat.le_of_ble_eq_true rfl) rfl (fun _ _ hf => t_Eng_apply hf) (fun x6 h5 => ?_)
        refine J_pop (pc' := 47) ok (dOf dX3_run 27 rfl) rfl rfl ?_
        refine J_iinc (v := s.1 + 1) (ls' := [some (.ref v0), some (.ref v1), some (.ref v2), some (.ref v3), some (.ref v4), some (.int v5), some (.int (s.1 + 1)), some (.int s.2.1)]) (pc' := 50) ok (dOf dX3_run 28 rfl) rfl rfl (by rfl) (Nat.le_of_ble_eq_true rfl) rfl rfl ?_
        refine J_iinc (v := s.2.1 + 1) (ls' := [some (.ref v0), some (.ref v1), some (.ref v2), some (.ref v3), some (.ref v4), some (.int v5), some (.int (s.1 + 1)), some (.int (s.2.1 + 1))]) (pc' := 53) ok (dOf dX3_run 29 rfl) rfl rfl (by rfl) (Nat.le_of_ble_eq_true rfl) rfl rfl ?_
        refine J_goto (tgt := 6) ok (dOf dX3_run 30 rfl) (by decide) ?_
        exact J_fin (k1 (s.1 + 1, s.2.1 + 1, h5))
      · exact J_fin (kx32 (s.1, s.2.1, h2))
def Eng_run_j32 (v0 : Nat) (v1 : Nat) (v2 : Nat) (v3 : Nat) (v4 : Nat) (v5 : Int32) (v6 : Int32) (v7 : Int32) (h : AHeap) : Option (Int32 × AHeap) :=
  some (v6, h)
theorem Eng_run_j32_J {E : JE} {l : Launch} {G : GX} {v : Int32} {h' : AHeap} (ok : JOK E l G kEng_run 0 0 (some (.int v)) h') (v0 : Nat) (v1 : Nat) (v2 : Nat) (v3 : Nat) (v4 : Nat) (v5 : Int32) (v6 : Int32) (v7 : Int32) (h : AHeap) : J E kEng_run (Eng_run_j32 v0 v1 v2 v3 v4 v5 v6 v7 h) (fun z => z = (v, h')) 32 [some (.ref v0), some (.ref v1), some (.ref v2), some (.ref v3), some (.ref v4), some (.int v5), some (.int v6), some (.int v7)] [] h 0 0 := by
  unfold Eng_run_j32
  refine J_iload (pc' := 34) ok (dOf dX3_run 17 rfl) rfl rfl ?_
  exact J_ireturn ok (dOf dX3_run 18 rfl) rfl (Eq.refl 0) (Nat.le_refl 0)
def Eng_run_j56 (v0 : Nat) (v1 : Nat) (v2 : Nat) (v3 : Nat) (v4 : Nat) (v5 : Int32) (v6 : Int32) (v7 : Int32) (h : AHeap) : Option (Int32 × AHeap) :=
  some (v6, h)
theorem Eng_run_j56_J {E : JE} {l : Launch} {G : GX} {v : Int32} {h' : AHeap} (ok : JOK E l G kEng_run 0 0 (some (.int v)) h') (v0 : Nat) (v1 : Nat) (v2 : Nat) (v3 : Nat) (v4 : Nat) (v5 : Int32) (v6 : Int32) (v7 : Int32) (h : AHeap) : J E kEng_run (Eng_run_j56 v0 v1 v2 v3 v4 v5 v6 v7 h) (fun z => z = (v, h')) 56 [some (.ref v0), some (.ref v1), some (.ref v2), some (.ref v3), some (.ref v4), some (.int v5), some (.int v6), some (.int v7)] [] h 0 0 := by
  unfold Eng_run_j56
  refine J_iload (pc' := 58) ok (dOf dX3_run 31 rfl) rfl rfl ?_
  exact J_ireturn ok (dOf dX3_run 32 rfl) rfl (Eq.refl 0) (Nat.le_refl 0)
def Eng_run (v0 : Nat) (v1 : Nat) (v2 : Nat) (v3 : Nat) (v4 : Nat) (v5 : Int32) (h : AHeap) : Option (Int32 × AHeap) :=
  (iter (Eng_run_b6 v0 v1 v2 v3 v4 v5) Lmax (0, 0, h)).bind (Sum.elim (fun (q6 : Int32 × Int32 × AHeap) => Eng_run_j32 v0 v1 v2 v3 v4 v5 q6.1 q6.2.1 q6.2.2) (fun (q6 : Int32 × Int32 × AHeap) => Eng_run_j56 v0 v1 v2 v3 v4 v5 q6.1 q6.2.1 q6.2.2))
theorem t_Eng_run {l : Launch} {G : GX} {v0 : Nat} {v1 : Nat} {v2 : Nat} {v3 : Nat} {v4 : Nat} {v5 : Int32} {h : AHeap} {v : Int32} {h1 : AHeap} (hf : Eng_run v0 v1 v2 v3 v4 v5 h = some (v, h1)) : CT l G kEng_run 0 0 [.ref v0, .ref v1, .ref v2, .ref v3, .ref v4, .int v5] h (some (.int v)) h1 := by
  refine CT_of (ls := [some (.ref v0), some (.ref v1), some (.ref v2), some (.ref v3), some (.ref v4), some (.int v5), none, none]) (Z := fun z => z = (v, h1)) (by decide +kernel) (Nat.le_of_ble_eq_true rfl) hf rfl ⟨rfl, rfl, rfl, rfl, rfl, rfl, trivial⟩ (fun E ok => ?_)
  unfold Eng_run
  refine J_iconst (v := 0) (pc' := 1) ok (dOf dX3_run 0 rfl) rfl (by decide) ?_
  refine J_istore (ls' := [some (.ref v0), some (.ref v1), some (.ref v2), some (.ref v3), some (.ref v4), some (.int v5), some (.int 0), none]) (pc' := 3) ok (dOf dX3_run 1 rfl) rfl (Nat.le_of_ble_eq_true rfl) rfl rfl ?_
  refine J_iconst (v := 0) (pc' := 4) ok (dOf dX3_run 2 rfl) rfl (by decide) ?_
  refine J_istore (ls' := [some (.ref v0), some (.ref v1), some (.ref v2), some (.ref v3), some (.ref v4), some (.int v5), some (.int 0), some (.int 0)]) (pc' := 6) ok (dOf dX3_run 3 rfl) rfl (Nat.le_of_ble_eq_true rfl) rfl rfl ?_
  refine J_iter (lf := fun z6 => [some (.ref v0), some (.ref v1), some (.ref v2), some (.ref v3), some (.ref v4), some (.int v5), some (.int z6.1), some (.int z6.2.1)]) (sf := fun _ => []) (hf := fun z6 => z6.2.2) (px := (Sum.elim (fun (q6 : Int32 × Int32 × AHeap) => 32) (fun (q6 : Int32 × Int32 × AHeap) => 56))) (lx := (Sum.elim (fun (q6 : Int32 × Int32 × AHeap) => [some (.ref v0), some (.ref v1), some (.ref v2), some (.ref v3), some (.ref v4), some (.int v5), some (.int q6.1), some (.int q6.2.1)]) (fun (q6 : Int32 × Int32 × AHeap) => [some (.ref v0), some (.ref v1), some (.ref v2), some (.ref v3), some (.ref v4), some (.int v5), some (.int q6.1), some (.int q6.2.1)]))) (sx := (Sum.elim (fun (q6 : Int32 × Int32 × AHeap) => []) (fun (q6 : Int32 × Int32 × AHeap) => []))) (hx := (Sum.elim (fun (q6 : Int32 × Int32 × AHeap) => q6.2.2) (fun (q6 : Int32 × Int32 × AHeap) => q6.2.2))) (fun Y2 z6 m1 m2 => Eng_run_b6_J ok v0 v1 v2 v3 v4 v5 m1 (fun q hq => m2 (Sum.inl q) hq) (fun q hq => m2 (Sum.inr q) hq) z6) (fun q6 => ?_) Lmax _
  rcases q6 with q6 | q6
  · show J E kEng_run (Eng_run_j32 v0 v1 v2 v3 v4 v5 q6.1 q6.2.1 q6.2.2) _ 32 [some (.ref v0), some (.ref v1), some (.ref v2), some (.ref v3), some (.ref v4), some (.int v5), some (.int q6.1), some (.int q6.2.1)] [] q6.2.2 0 0
    exact Eng_run_j32_J ok v0 v1 v2 v3 v4 v5 q6.1 q6.2.1 q6.2.2
  · show J E kEng_run (Eng_run_j56 v0 v1 v2 v3 v4 v5 q6.1 q6.2.1 q6.2.2) _ 56 [some (.ref v0), some (.ref v1), some (.ref v2), some (.ref v3), some (.ref v4), some (.int v5), some (.int q6.1), some (.int q6.2.1)] [] q6.2.2 0 0
    exact Eng_run_j56_J ok v0 v1 v2 v3 v4 v5 q6.1 q6.2.1 q6.2.2
-- X10_go
abbrev kSp_go : Cd := (yX10_go, cX10_go, 3, (some .int), 7, 178)
theorem dX10_go : dcheck cX10_go [(0, .iload_n 1, 1), (1, .iconst 1, 1), (2, .if_icmp .lt 9, 3), (5, .iload_n 1, 1), (6, .bipush 99, 2), (8, .if_icmp .le 9, 3), (11, .aload_n 0, 1), (12, .iconst (-1), 1), (13, .invokevirtual 81, 3), (16, .ireturn, 1), (17, .aload_n 0, 1), (18, .getfield 10, 3), (21, .getfield 187, 3), (24, .getfield 190, 3), (27, .ifCond .eq 10, 3), (30, .aload_n 0, 1), (31, .bipush (-3), 2), (33, .invokevirtual 81, 3), (36, .ireturn, 1), (37, .aload_n 0, 1), (38, .getfield 23, 3), (41, .aload_n 0, 1), (42, .getfield 10, 3), (45, .getfield 113, 3), (48, .aload_n 0, 1), (49, .getfield 10, 3), (52, .getfield 120, 3), (55, .aload_n 0, 1), (56, .getfield 10, 3), (59, .getfield 187, 3), (62, .aload_n 0, 1), (63, .getfield 16, 3), (66, .invokevirtual 193, 3), (69, .ifCond .ne 10, 3), (72, .aload_n 0, 1), (73, .bipush (-5), 2), (75, .invokevirtual 81, 3), (78, .ireturn, 1), (79, .aload_n 0, 1), (80, .getfield 44, 3), (83, .aload_n 0, 1), (84, .getfield 10, 3), (87, .bipush 8, 2), (89, .invokevirtual 109, 3), (92, .aload_n 0, 1), (93, .getfield 23, 3), (96, .aload_n 0, 1), (97, .getfield 10, 3), (100, .getfield 113, 3), (103, .aload_n 0, 1), (104, .getfield 10, 3), (107, .getfield 120, 3), (110, .aload_n 0, 1), (111, .getfield 10, 3), (114, .getfield 187, 3), (117, .aload_n 0, 1), (118, .getfield 16, 3), (121, .iconst 1, 1), (122, .iaload, 1), (123, .invokevirtual 197, 3), (126, .pop, 1), (127, .aload_n 0, 1), (128, .getfield 23, 3), (131, .aload_n 0, 1), (132, .getfield 10, 3), (135, .getfield 113, 3), (138, .aload_n 0, 1), (139, .getfield 10, 3), (142, .getfield 120, 3), (145, .aload_n 0, 1), (146, .getfield 10, 3), (149, .getfield 187, 3), (152, .aload_n 0, 1), (153, .getfield 16, 3), (156, .iload_n 1, 1), (157, .iconst 1, 1), (158, .isub, 1), (159, .invokevirtual 201, 3), (162, .istore_n 2, 1), (163, .aload_n 0, 1), (164, .iconst 1, 1), (165, .iload_n 2, 1), (166, .iadd, 1), (167, .invokevirtual 91, 3), (170, .ireturn, 1)] = true := by decide +kernel
theorem cw_Sp_go {k : Cd} (h1 : kSp_go.2.2.2.2.1 + 1 ≤ k.2.2.2.2.1) (h2 : 8 + (kSp_go.2.2.1 + 11) + kSp_go.2.2.2.2.2 ≤ k.2.2.2.2.2) : Cw k kSp_go 1 := ⟨wcode_X10_go, wini_SplitProgram, ⟨by decide, by decide, by decide +kernel⟩, h1, h2⟩
def Sp_go_j11 (v0 : Nat) (v1 : Int32) (h : AHeap) : Option (Int32 × AHeap) :=
  (chk h v0 10).bind fun _ => bnd2 (Sp_refuse v0 (-1) h) fun x2 h1 => some (x2, h1)
theorem Sp_go_j11_J {E : JE} {l : Launch} {G : GX} {v : Int32} {h' : AHeap} (ok : JOK E l G kSp_go 0 0 (some (.int v)) h') (v0 : Nat) (v1 : Int32) (h : AHeap) : J E kSp_go (Sp_go_j11 v0 v1 h) (fun z => z = (v, h')) 11 [some (.ref v0), some (.int v1), none] [] h 0 0 := by
  unfold Sp_go_j11
  refine J_aload_n (pc' := 12) ok (dOf dX10_go 6 rfl) rfl rfl rfl ?_
  refine J_iconst (v := (-1)) (pc' := 13) ok (dOf dX10_go 7 rfl) rfl (by decide) ?_
  refine J_callVi (k2 := kSp_refuse) (ci := 10) (T := TX10) (N := 14) (as := [.int (-1)]) (pc' := 16) ok (dOf dX10_go 8 rfl) rfl (cw_Sp_refuse (by decide) (by decide)) wml_X10_81 winst_X10_refuse wsel_X10_refuse rfl ⟨Nat.le_refl 0, Nat.le_refl 0⟩ (Nat.le_of_ble_eq_true rfl) rfl (fun _ _ hf => t_Sp_refuse hf) (fun x2 h1 => ?_)
  exact J_ireturn ok (dOf dX10_go 9 rfl) rfl (Eq.refl 0) (Nat.le_refl 0)
def Sp_go (v0 : Nat) (v1 : Int32) (h : AHeap) : Option (Int32 × AHeap) :=
  (if v1 < 1 then Sp_go_j11 v0 v1 h else (if v1 ≤ 99 then (gfR h v0 10 0).bind fun a3 => (gfR h a3 8 2).bind fun a4 => (gfI h a4 7 0).bind fun x5 => (if x5 = 0 then (gfR h v0 10 2).bind fun a6 => (gfR h v0 10 0).bind fun a7 => (gfR h a7 8 0).bind fun a8 => (gfR h v0 10 0).bind fun a9 => (gfR h a9 8 1).bind fun a10 => (gfR h v0 10 0).bind fun a11 => (gfR h a11 8 2).bind fun a12 => (gfR h v0 10 1).bind fun a13 => (chk h a6 3).bind fun _ => bnd2 (Eng_decide a6 a8 a10 a12 a13 h) fun x15 h14 => (if ¬ x15 = 0 then (gfR h14 v0 10 5).bind fun a16 => (gfR h14 v0 10 0).bind fun a17 => (chk h14 a16 5).bind fun _ => bnd2 (Hist_keep a16 a17 8 h14) fun _ h18 => (gfR h18 v0 10 2).bind fun a19 => (gfR h18 v0 10 0).bind fun a20 => (gfR h18 a20 8 0).bind fun a21 => (gfR h18 v0 10 0).bind fun a22 => (gfR h18 a22 8 1).bind fun a23 => (gfR h18 v0 10 0).bind fun a24 => (gfR h18 a24 8 2).bind fun a25 => (gfR h18 v0 10 1).bind fun a26 => (ald 0 h18 a26 1).bind fun x27 => (chk h18 a19 3).bind fun _ => bnd2 (Eng_apply a19 a21 a23 a25 x27 h18) fun x29 h28 => (gfR h28 v0 10 2).bind fun a30 => (gfR h28 v0 10 0).bind fun a31 => (gfR h28 a31 8 0).bind fun a32 => (gfR h28 v0 10 0).bind fun a33 => (gfR h28 a33 8 1).bind fun a34 => (gfR h28 v0 10 0).bind fun a35 => (gfR h28 a35 8 2).bind fun a36 => (gfR h28 v0 10 1).bind fun a37 => (chk h28 a30 3).bind fun _ => bnd2 (Eng_run a30 a32 a34 a36 a37 (v1 - 1) h28) fun x39 h38 => (chk h38 v0 10).bind fun _ => bnd2 (Sp_accept v0 (1 + x39) h38) fun x41 h40 => some (x41, h40) else (chk h14 v0 10).bind fun _ => bnd2 (Sp_refuse v0 (-5) h14) fun x43 h42 => some (x43, h42)) else (chk h v0 10).bind fun _ => bnd2 (Sp_refuse v0 (-3) h) fun x45 h44 => some (x45, h44)) else Sp_go_j11 v0 v1 h))
theorem t_Sp_go {l : Launch} {G : GX} {v0 : Nat} {v1 : Int32} {h : AHeap} {v : Int32} {h1 : AHeap} (hf : Sp_go v0 v1 h = some (v, h1)) : CT l G kSp_go 0 0 [.ref v0, .int v1] h (some (.int v)) h1 := by
  refine CT_of (ls := [some (.ref v0), some (.int v1), none]) (Z := fun z => z = (v, h1)) (by decide +kernel) (Nat.le_of_ble_eq_true rfl) hf rfl ⟨rfl, rfl, trivial⟩ (fun E ok => ?_)
  unfold Sp_go
  refine J_iload_n (pc' := 1) ok (dOf dX10_go 0 rfl) rfl rfl rfl ?_
  refine J_iconst (v := 1) (pc' := 2) ok (dOf dX10_go 1 rfl) rfl (by decide) ?_
  refine J_icmp_lt (tgt := 11) (pc' := 5) ok (dOf dX10_go 2 rfl) rfl (by decide) ?_ ?_
  · exact Sp_go_j11_J ok v0 v1 h
  · refine J_iload_n (pc' := 6) ok (dOf dX10_go 3 rfl) rfl rfl rfl ?_
    refine J_bipush (v := 99) (pc' := 8) ok (dOf dX10_go 4 rfl) rfl (by decide) ?_
    refine J_icmp_le (tgt := 17) (pc' := 11) ok (dOf dX10_go 5 rfl) rfl (by decide) ?_ ?_
    · refine J_aload_n (pc' := 18) ok (dOf dX10_go 10 rfl) rfl rfl rfl ?_
      refine J_getR (ci := 10) (kf := 0) (C := RX10) (T := TX10) (N := 14) (pc' := 21) ok (dOf dX10_go 11 rfl) rfl (by decide) rfl (by decide) win_10 wfl_X10_10 (fun a3 => ?_)
      refine J_getR (ci := 8) (kf := 2) (C := RX8) (T := TX8) (N := 3) (pc' := 24) ok (dOf dX10_go 12 rfl) rfl (by decide) rfl (by decide) win_8 wfl_X10_187 (fun a4 => ?_)
      refine J_getI (ci := 7) (kf := 0) (C := RX7) (T := TX7) (N := 7) (pc' := 27) ok (dOf dX10_go 13 rfl) rfl (by decide) rfl (by decide) win_7 wfl_X10_190 (fun x5 => ?_)
      refine J_if_eq (tgt := 37) (pc' := 30) ok (dOf dX10_go 14 rfl) rfl (by decide) ?_ ?_
      · refine J_aload_n (pc' := 38) ok (dOf dX10_go 19 rfl) rfl rfl rfl ?_
        refine J_getR (ci := 10) (kf := 2) (C := RX10) (T := TX10) (N := 14) (pc' := 41) ok (dOf dX10_go 20 rfl) rfl (by decide) rfl (by decide) win_10 wfl_X10_23 (fun a6 => ?_)
        refine J_aload_n (pc' := 42) ok (dOf dX10_go 21 rfl) rfl rfl rfl ?_
        refine J_getR (ci := 10) (kf := 0) (C := RX10) (T := TX10) (N := 14) (pc' := 45) ok (dOf dX10_go 22 rfl) rfl (by decide) rfl (by decide) win_10 wfl_X10_10 (fun a7 => ?_)
        refine J_getR (ci := 8) (kf := 0) (C := RX8) (T := TX8) (N := 3) (pc' := 48) ok (dOf dX10_go 23 rfl) rfl (by decide) rfl (by decide) win_8 wfl_X10_113 (fun a8 => ?_)
        refine J_aload_n (pc' := 49) ok (dOf dX10_go 24 rfl) rfl rfl rfl ?_
        refine J_getR (ci := 10) (kf := 0) (C := RX10) (T := TX10) (N := 14) (pc' := 52) ok (dOf dX10_go 25 rfl) rfl (by decide) rfl (by decide) win_10 wfl_X10_10 (fun a9 => ?_)
        refine J_getR (ci := 8) (kf := 1) (C := RX8) (T := TX8) (N := 3) (pc' := 55) ok (dOf dX10_go 26 rfl) rfl (by decide) rfl (by decide) win_8 wfl_X10_120 (fun a10 => ?_)
        refine J_aload_n (pc' := 56) ok (dOf dX10_go 27 rfl) rfl rfl rfl ?_
        refine J_getR (ci := 10) (kf := 0) (C := RX10) (T := TX10) (N := 14) (pc' := 59) ok (dOf dX10_go 28 rfl) rfl (by decide) rfl (by decide) win_10 wfl_X10_10 (fun a11 => ?_)
        refine J_getR (ci := 8) (kf := 2) (C := RX8) (T := TX8) (N := 3) (pc' := 62) ok (dOf dX10_go 29 rfl) rfl (by decide) rfl (by decide) win_8 wfl_X10_187 (fun a12 => ?_)
        refine J_aload_n (pc' := 63) ok (dOf dX10_go 30 rfl) rfl rfl rfl ?_
        refine J_getR (ci := 10) (kf := 1) (C := RX10) (T := TX10) (N := 14) (pc' := 66) ok (dOf dX10_go 31 rfl) rfl (by decide) rfl (by decide) win_10 wfl_X10_16 (fun a13 => ?_)
        refine J_callVi (k2 := kEng_decide) (ci := 3) (T := TX3) (N := 12) (as := [.ref a8, .ref a10, .ref a12, .ref a13]) (pc' := 69) ok (dOf dX10_go 32 rfl) rfl (cw_Eng_decide (by decide) (by decide)) wml_X10_193 winst_X3_decide wsel_X3_decide rfl ⟨Nat.le_refl 0, Nat.le_refl 0⟩ (Nat.le_of_ble_eq_true rfl) rfl (fun _ _ hf => t_Eng_decide hf) (fun x15 h14 => ?_)
        refine J_if_ne (tgt := 79) (pc' := 72) ok (dOf dX10_go 33 rfl) rfl (by decide) ?_ ?_
        · refine J_aload_n (pc' := 80) ok (dOf dX10_go 38 rfl) rfl rfl rfl ?_
          refine J_getR (ci := 10) (kf := 5) (C := RX10) (T := TX10) (N := 14) (pc' := 83) ok (dOf dX10_go 39 rfl) rfl (by decide) rfl (by decide) win_10 wfl_X10_44 (fun a16 => ?_)
          refine J_aload_n (pc' := 84) ok (dOf dX10_go 40 rfl) rfl rfl rfl ?_
          refine J_getR (ci := 10) (kf := 0) (C := RX10) (T := TX10) (N := 14) (pc' := 87) ok (dOf dX10_go 41 rfl) rfl (by decide) rfl (by decide) win_10 wfl_X10_10 (fun a17 => ?_)
          refine J_bipush (v := 8) (pc' := 89) ok (dOf dX10_go 42 rfl) rfl (by decide) ?_
          refine J_callVv (k2 := kHist_keep) (ci := 5) (T := TX5) (N := 4) (as := [.ref a17, .int 8]) (pc' := 92) ok (dOf dX10_go 43 rfl) rfl (cw_Hist_keep (by decide) (by decide)) wml_X10_109 winst_X5_keep wsel_X5_keep rfl ⟨Nat.le_refl 0, Nat.le_refl 0⟩ (Nat.le_of_ble_eq_true rfl) rfl (fun _ _ hf => t_Hist_keep hf) (fun _ h18 => ?_)
          refine J_aload_n (pc' := 93) ok (dOf dX10_go 44 rfl) rfl rfl rfl ?_
          refine J_getR (ci := 10) (kf := 2) (C := RX10) (T := TX10) (N := 14) (pc' := 96) ok (dOf dX10_go 45 rfl) rfl (by decide) rfl (by decide) win_10 wfl_X10_23 (fun a19 => ?_)
          refine J_aload_n (pc' := 97) ok (dOf dX10_go 46 rfl) rfl rfl rfl ?_
          refine J_getR (ci := 10) (kf := 0) (C := RX10) (T := TX10) (N := 14) (pc' := 100) ok (dOf dX10_go 47 rfl) rfl (by decide) rfl (by decide) win_10 wfl_X10_10 (fun a20 => ?_)
          refine J_getR (ci := 8) (kf := 0) (C := RX8) (T := TX8) (N := 3) (pc' := 103) ok (dOf dX10_go 48 rfl) rfl (by decide) rfl (by decide) win_8 wfl_X10_113 (fun a21 => ?_)
          refine J_aload_n (pc' := 104) ok (dOf dX10_go 49 rfl) rfl rfl rfl ?_
          refine J_getR (ci := 10) (kf := 0) (C := RX10) (T := TX10) (N := 14) (pc' := 107) ok (dOf dX10_go 50 rfl) rfl (by decide) rfl (by decide) win_10 wfl_X10_10 (fun a22 => ?_)
          refine J_getR (ci := 8) (kf := 1) (C := RX8) (T := TX8) (N := 3) (pc' := 110) ok (dOf dX10_go 51 rfl) rfl (by decide) rfl (by decide) win_8 wfl_X10_120 (fun a23 => ?_)
          refine J_aload_n (pc' := 111) ok (dOf dX10_go 52 rfl) rfl rfl rfl ?_
          refine J_getR (ci := 10) (kf := 0) (C := RX10) (T := TX10) (N := 14) (pc' := 114) ok (dOf dX10_go 53 rfl) rfl (by decide) rfl (by decide) win_10 wfl_X10_10 (fun a24 => ?_)
          refine J_getR (ci := 8) (kf := 2) (C := RX8) (T := TX8) (N := 3) (pc' := 117) ok (dOf dX10_go 54 rfl) rfl (by decide) rfl (by decide) win_8 wfl_X10_187 (fun a25 => ?_)
          refine J_aload_n (pc' := 118) ok (dOf dX10_go 55 rfl) rfl rfl rfl ?_
          refine J_getR (ci := 10) (kf := 1) (C := RX10) (T := TX10) (N := 14) (pc' := 121) ok (dOf dX10_go 56 rfl) rfl (by decide) rfl (by decide) win_10 wfl_X10_16 (fun a26 => ?_)
          refine J_iconst (v := 1) (pc' := 122) ok (dOf dX10_go 57 rfl) rfl (by decide) ?_
          refine J_iald (pc' := 123) ok (dOf dX10_go 58 rfl) rfl (fun x27 => ?_)
          refine J_callVi (k2 := kEng_apply) (ci := 3) (T := TX3) (N := 12) (as := [.ref a21, .ref a23, .ref a25, .int x27]) (pc' := 126) ok (dOf dX10_go 59 rfl) rfl (cw_Eng_apply (by decide) (by decide)) wml_X10_197 winst_X3_apply wsel_X3_apply rfl ⟨Nat.le_refl 0, Nat.le_refl 0⟩ (Nat.le_of_ble_eq_true rfl) rfl (fun _ _ hf => t_Eng_apply hf) (fun x29 h28 => ?_)
          refine J_pop (pc' := 127) ok (dOf dX10_go 60 rfl) rfl rfl ?_
          refine J_aload_n (pc' := 128) ok (dOf dX10_go 61 rfl) rfl rfl rfl ?_
          refine J_getR (ci := 10) (kf := 2) (C := RX10) (T := TX10) (N := 14) (pc' := 131) ok (dOf dX10_go 62 rfl) rfl (by decide) rfl (by decide) win_10 wfl_X10_23 (fun a30 => ?_)
          refine J_aload_n (pc' := 132) ok (dOf dX10_go 63 rfl) rfl rfl rfl ?_
          refine J_getR (ci := 10) (kf := 0) (C := RX10) (T := TX10) (N := 14) (pc' := 135) ok (dOf dX10_go 64 rfl) rfl (by decide) rfl (by decide) win_10 wfl_X10_10 (fun a31 => ?_)
          refine J_getR (ci := 8) (kf := 0) (C := RX8) (T := TX8) (N := 3) (pc' := 138) ok (dOf dX10_go 65 rfl) rfl (by decide) rfl (by decide) win_8 wfl_X10_113 (fun a32 => ?_)
          refine J_aload_n (pc' := 139) ok (dOf dX10_go 66 rfl) rfl rfl rfl ?_
          refine J_getR (ci := 10) (kf := 0) (C := RX10) (T := TX10) (N := 14) (pc' := 142) ok (dOf dX10_go 67 rfl) rfl (by decide) rfl (by decide) win_10 wfl_X10_10 (fun a33 => ?_)
          refine J_getR (ci := 8) (kf := 1) (C := RX8) (T := TX8) (N := 3) (pc' := 145) ok (dOf dX10_go 68 rfl) rfl (by decide) rfl (by decide) win_8 wfl_X10_120 (fun a34 => ?_)
          refine J_aload_n (pc' := 146) ok (dOf dX10_go 69 rfl) rfl rfl rfl ?_
          refine J_getR (ci := 10) (kf := 0) (C := RX10) (T := TX10) (N := 14) (pc' := 149) ok (dOf dX10_go 70 rfl) rfl (by decide) rfl (by decide) win_10 wfl_X10_10 (fun a35 => ?_)
          refine J_getR (ci := 8) (kf := 2) (C := RX8) (T := TX8) (N := 3) (pc' := 152) ok (dOf dX10_go 71 rfl) rfl (by decide) rfl (by decide) win_8 wfl_X10_187 (fun a36 => ?_)
          refine J_aload_n (pc' := 153) ok (dOf dX10_go 72 rfl) rfl rfl rfl ?_
          refine J_getR (ci := 10) (kf := 1) (C := RX10) (T := TX10) (N := 14) (pc' := 156) ok (dOf dX10_go 73 rfl) rfl (by decide) rfl (by decide) win_10 wfl_X10_16 (fun a37 => ?_)
          refine J_iload_n (pc' := 157) ok (dOf dX10_go 74 rfl) rfl rfl rfl ?_
          refine J_iconst (v := 1) (pc' := 158) ok (dOf dX10_go 75 rfl) rfl (by decide) ?_
          refine J_isub (pc' := 159) ok (dOf dX10_go 76 rfl) rfl ?_
          refine J_callVi (k2 := kEng_run) (ci := 3) (T := TX3) (N := 12) (as := [.ref a32, .ref a34, .ref a36, .ref a37, .int (v1 - 1)]) (pc' := 162) ok (dOf dX10_go 77 rfl) rfl (cw_Eng_run (by decide) (by decide)) wml_X10_201 winst_X3_run wsel_X3_run rfl ⟨Nat.le_refl 0, Nat.le_refl 0⟩ (Nat.le_of_ble_eq_true rfl) rfl (fun _ _ hf => t_Eng_run hf) (fun x39 h38 => ?_)
          refine J_istore_n (ls' := [some (.ref v0), some (.int v1), some (.int x39)]) (pc' := 163) ok (dOf dX10_go 78 rfl) rfl rfl (Nat.le_of_ble_eq_true rfl) rfl rfl ?_
          refine J_aload_n (pc' := 164) ok (dOf dX10_go 79 rfl) rfl rfl rfl ?_
          refine J_iconst (v := 1) (pc' := 165) ok (dOf dX10_go 80 rfl) rfl (by decide) ?_
          refine J_iload_n (pc' := 166) ok (dOf dX10_go 81 rfl) rfl rfl rfl ?_
          refine J_iadd (pc' := 167) ok (dOf dX10_go 82 rfl) rfl ?_
          refine J_callVi (k2 := kSp_accept) (ci := 10) (T := TX10) (N := 14) (as := [.int (1 + x39)]) (pc' := 170) ok (dOf dX10_go 83 rfl) rfl (cw_Sp_accept (by decide) (by decide)) wml_X10_91 winst_X10_accept wsel_X10_accept rfl ⟨Nat.le_refl 0, Nat.le_refl 0⟩ (Nat.le_of_ble_eq_true rfl) rfl (fun _ _ hf => t_Sp_accept hf) (fun x41 h40 => ?_)
          exact J_ireturn ok (dOf dX10_go 84 rfl) rfl (Eq.refl 0) (Nat.le_refl 0)
        · refine J_aload_n (pc' := 73) ok (dOf dX10_go 34 rfl) rfl rfl rfl ?_
          refine J_bipush (v := (-5)) (pc' := 75) ok (dOf dX10_go 35 rfl) rfl (by decide) ?_
          refine J_callVi (k2 := kSp_refuse) (ci := 10) (T := TX10) (N := 14) (as := [.int (-5)]) (pc' := 78) ok (dOf dX10_go 36 rfl) rfl (cw_Sp_refuse (by decide) (by decide)) wml_X10_81 winst_X10_refuse wsel_X10_refuse rfl ⟨Nat.le_refl 0, Nat.le_refl 0⟩ (Nat.le_of_ble_eq_true rfl) rfl (fun _ _ hf => t_Sp_refuse hf) (fun x43 h42 => ?_)
          exact J_ireturn ok (dOf dX10_go 37 rfl) rfl (Eq.refl 0) (Nat.le_refl 0)
      · refine J_aload_n (pc' := 31) ok (dOf dX10_go 15 rfl) rfl rfl rfl ?_
        refine J_bipush (v := (-3)) (pc' := 33) ok (dOf dX10_go 16 rfl) rfl (by decide) ?_
        refine J_callVi (k2 := kSp_refuse) (ci := 10) (T := TX10) (N := 14) (as := [.int (-3)]) (pc' := 36) ok (dOf dX10_go 17 rfl) rfl (cw_Sp_refuse (by decide) (by decide)) wml_X10_81 winst_X10_refuse wsel_X10_refuse rfl ⟨Nat.le_refl 0, Nat.le_refl 0⟩ (Nat.le_of_ble_eq_true rfl) rfl (fun _ _ hf => t_Sp_refuse hf) (fun x45 h44 => ?_)
        exact J_ireturn ok (dOf dX10_go 18 rfl) rfl (Eq.refl 0) (Nat.le_refl 0)
    · exact Sp_go_j11_J ok v0 v1 h
-- X10_clear
abbrev kSp_clear : Cd := (yX10_clear, cX10_clear, 2, (some .int), 4, 109)
theorem dX10_clear : dcheck cX10_clear [(0, .aload_n 0, 1), (1, .getfield 44, 3), (4, .aload_n 0, 1), (5, .getfield 10, 3), (8, .bipush 9, 2), (10, .invokevirtual 109, 3), (13, .aload_n 0, 1), (14, .getfield 10, 3), (17, .getfield 120, 3), (20, .getfield 123, 3), (23, .istore_n 1, 1), (24, .aload_n 0, 1), (25, .getfield 10, 3), (28, .getfield 120, 3), (31, .iconst 0, 1), (32, .putfield 123, 3), (35, .aload_n 0, 1), (36, .getfield 10, 3), (39, .getfield 187, 3), (42, .invokevirtual 205, 3), (45, .aload_n 0, 1), (46, .getfield 23, 3), (49, .getfield 208, 3), (52, .iconst 1, 1), (53, .putfield 212, 3), (56, .iload_n 1, 1), (57, .ireturn, 1)] = true := by decide +kernel
theorem cw_Sp_clear {k : Cd} (h1 : kSp_clear.2.2.2.2.1 + 1 ≤ k.2.2.2.2.1) (h2 : 8 + (kSp_clear.2.2.1 + 11) + kSp_clear.2.2.2.2.2 ≤ k.2.2.2.2.2) : Cw k kSp_clear 0 := ⟨wcode_X10_clear, wini_SplitProgram, ⟨by decide, by decide, by decide +kernel⟩, h1, h2⟩
def Sp_clear (v0 : Nat) (h : AHeap) : Option (Int32 × AHeap) :=
  (gfR h v0 10 5).bind fun a1 => (gfR h v0 10 0).bind fun a2 => (chk h a1 5).bind fun _ => bnd2 (Hist_keep a1 a2 9 h) fun _ h3 => (gfR h3 v0 10 0).bind fun a4 => (gfR h3 a4 8 1).bind fun a5 => (gfI h3 a5 2 1).bind fun x6 => (gfR h3 v0 10 0).bind fun a7 => (gfR h3 a7 8 1).bind fun a8 => (pfV h3 a8 2 1 (.int 0)).bind fun h9 => (gfR h9 v0 10 0).bind fun a10 => (gfR h9 a10 8 2).bind fun a11 => (chk h9 a11 7).bind fun _ => bnd2 (Srch_reset a11 h9) fun _ h12 => (gfR h12 v0 10 2).bind fun a13 => (gfR h12 a13 3 1).bind fun a14 => (bz 1).bind fun x16 => (pfV h12 a14 1 0 (.int x16)).bind fun h15 => some (x6, h15)
theorem t_Sp_clear {l : Launch} {G : GX} {v0 : Nat} {h : AHeap} {v : Int32} {h1 : AHeap} (hf : Sp_clear v0 h = some (v, h1)) : CT l G kSp_clear 0 0 [.ref v0] h (some (.int v)) h1 := by
  refine CT_of (ls := [some (.ref v0), none]) (Z := fun z => z = (v, h1)) (by decide +kernel) (Nat.le_of_ble_eq_true rfl) hf rfl ⟨rfl, trivial⟩ (fun E ok => ?_)
  unfold Sp_clear
  refine J_aload_n (pc' := 1) ok (dOf dX10_clear 0 rfl) rfl rfl rfl ?_
  refine J_getR (ci := 10) (kf := 5) (C := RX10) (T := TX10) (N := 14) (pc' := 4) ok (dOf dX10_clear 1 rfl) rfl (by decide) rfl (by decide) win_10 wfl_X10_44 (fun a1 => ?_)
  refine J_aload_n (pc' := 5) ok (dOf dX10_clear 2 rfl) rfl rfl rfl ?_
  refine J_getR (ci := 10) (kf := 0) (C := RX10) (T := TX10) (N := 14) (pc' := 8) ok (dOf dX10_clear 3 rfl) rfl (by decide) rfl (by decide) win_10 wfl_X10_10 (fun a2 => ?_)
  refine J_bipush (v := 9) (pc' := 10) ok (dOf dX10_clear 4 rfl) rfl (by decide) ?_
  refine J_callVv (k2 := kHist_keep) (ci := 5) (T := TX5) (N := 4) (as := [.ref a2, .int 9]) (pc' := 13) ok (dOf dX10_clear 5 rfl) rfl (cw_Hist_keep (by decide) (by decide)) wml_X10_109 winst_X5_keep wsel_X5_keep rfl ⟨Nat.le_refl 0, Nat.le_refl 0⟩ (Nat.le_of_ble_eq_true rfl) rfl (fun _ _ hf => t_Hist_keep hf) (fun _ h3 => ?_)
  refine J_aload_n (pc' := 14) ok (dOf dX10_clear 6 rfl) rfl rfl rfl ?_
  refine J_getR (ci := 10) (kf := 0) (C := RX10) (T := TX10) (N := 14) (pc' := 17) ok (dOf dX10_clear 7 rfl) rfl (by decide) rfl (by decide) win_10 wfl_X10_10 (fun a4 => ?_)
  refine J_getR (ci := 8) (kf := 1) (C := RX8) (T := TX8) (N := 3) (pc' := 20) ok (dOf dX10_clear 8 rfl) rfl (by decide) rfl (by decide) win_8 wfl_X10_120 (fun a5 => ?_)
  refine J_getI (ci := 2) (kf := 1) (C := RX2) (T := TX2) (N := 7) (pc' := 23) ok (dOf dX10_clear 9 rfl) rfl (by decide) rfl (by decide) win_2 wfl_X10_123 (fun x6 => ?_)
  refine J_istore_n (ls' := [some (.ref v0), some (.int x6)]) (pc' := 24) ok (dOf dX10_clear 10 rfl) rfl rfl (Nat.le_of_ble_eq_true rfl) rfl rfl ?_
  refine J_aload_n (pc' := 25) ok (dOf dX10_clear 11 rfl) rfl rfl rfl ?_
  refine J_getR (ci := 10) (kf := 0) (C := RX10) (T := TX10) (N := 14) (pc' := 28) ok (dOf dX10_clear 12 rfl) rfl (by decide) rfl (by decide) win_10 wfl_X10_10 (fun a7 => ?_)
  refine J_getR (ci := 8) (kf := 1) (C := RX8) (T := TX8) (N := 3) (pc' := 31) ok (dOf dX10_clear 13 rfl) rfl (by decide) rfl (by decide) win_8 wfl_X10_120 (fun a8 => ?_)
  refine J_iconst (v := 0) (pc' := 32) ok (dOf dX10_clear 14 rfl) rfl (by decide) ?_
  refine J_putI (ci := 2) (kf := 1) (C := RX2) (T := TX2) (N := 7) (pc' := 35) ok tyX2 (dOf dX10_clear 15 rfl) rfl rfl (by decide) win_2 tyX2_ok nmX2 rfl rfl wfl_X10_123 (fun h9 _ => ?_)
  refine J_aload_n (pc' := 36) ok (dOf dX10_clear 16 rfl) rfl rfl rfl ?_
  refine J_getR (ci := 10) (kf := 0) (C := RX10) (T := TX10) (N := 14) (pc' := 39) ok (dOf dX10_clear 17 rfl) rfl (by decide) rfl (by decide) win_10 wfl_X10_10 (fun a10 => ?_)
  refine J_getR (ci := 8) (kf := 2) (C := RX8) (T := TX8) (N := 3) (pc' := 42) ok (dOf dX10_clear 18 rfl) rfl (by decide) rfl (by decide) win_8 wfl_X10_187 (fun a11 => ?_)
  refine J_callVv (k2 := kSrch_reset) (ci := 7) (T := TX7) (N := 7) (as := []) (pc' := 45) ok (dOf dX10_clear 19 rfl) rfl (cw_Srch_reset (by decide) (by decide)) wml_X10_205 winst_X7_reset wsel_X7_reset rfl ⟨Nat.le_refl 0, Nat.le_refl 0⟩ (Nat.le_of_ble_eq_true rfl) rfl (fun _ _ hf => t_Srch_reset hf) (fun _ h12 => ?_)
  refine J_aload_n (pc' := 46) ok (dOf dX10_clear 20 rfl) rfl rfl rfl ?_
  refine J_getR (ci := 10) (kf := 2) (C := RX10) (T := TX10) (N := 14) (pc' := 49) ok (dOf dX10_clear 21 rfl) rfl (by decide) rfl (by decide) win_10 wfl_X10_23 (fun a13 => ?_)
  refine J_getR (ci := 3) (kf := 1) (C := RX3) (T := TX3) (N := 12) (pc' := 52) ok (dOf dX10_clear 22 rfl) rfl (by decide) rfl (by decide) win_3 wfl_X10_208 (fun a14 => ?_)
  refine J_iconst (v := 1) (pc' := 53) ok (dOf dX10_clear 23 rfl) rfl (by decide) ?_
  refine J_putZ (ci := 1) (kf := 0) (C := RX1) (T := TX1) (N := 3) (pc' := 56) ok tyX1 (dOf dX10_clear 24 rfl) rfl rfl (by decide) win_1 tyX1_ok nmX1 rfl rfl wfl_X10_212 (fun h15 _ => ?_)
  refine J_iload_n (pc' := 57) ok (dOf dX10_clear 25 rfl) rfl rfl rfl ?_
  exact J_ireturn ok (dOf dX10_clear 26 rfl) rfl (Eq.refl 0) (Nat.le_refl 0)
-- X5_takeBack
abbrev kHist_takeBack : Cd := (yX5_takeBack, cX5_takeBack, 2, (some .int), 3, 87)
theorem dX5_takeBack : dcheck cX5_takeBack [(0, .aload_n 0, 1), (1, .getfield 30, 3), (4, .ifCond .ne 5, 3), (7, .iconst (-1), 1), (8, .ireturn, 1), (9, .aload_n 0, 1), (10, .dup, 1), (11, .getfield 30, 3), (14, .iconst 1, 1), (15, .isub, 1), (16, .putfield 30, 3), (19, .aload_n 0, 1), (20, .aload_n 0, 1), (21, .getfield 22, 3), (24, .ifCond .le 12, 3), (27, .aload_n 0, 1), (28, .getfield 22, 3), (31, .iconst 1, 1), (32, .isub, 1), (33, .goto 5, 3), (36, .bipush 11, 2), (38, .putfield 22, 3), (41, .aload_n 1, 1), (42, .aload_n 0, 1), (43, .getfield 11, 3), (46, .aload_n 0, 1), (47, .getfield 22, 3), (50, .aaload, 1), (51, .invokevirtual 26, 3), (54, .aload_n 0, 1), (55, .getfield 17, 3), (58, .aload_n 0, 1), (59, .getfield 22, 3), (62, .iaload, 1), (63, .ireturn, 1)] = true := by decide +kernel
theorem cw_Hist_takeBack {k : Cd} (h1 : kHist_takeBack.2.2.2.2.1 + 1 ≤ k.2.2.2.2.1) (h2 : 8 + (kHist_takeBack.2.2.1 + 11) + kHist_takeBack.2.2.2.2.2 ≤ k.2.2.2.2.2) : Cw k kHist_takeBack 1 := ⟨wcode_X5_takeBack, wini_SplitProgram_History, ⟨by decide, by decide, by decide +kernel⟩, h1, h2⟩
def Hist_takeBack_j38 (v0 : Nat) (v1 : Nat) (t0 : Nat) (t1 : Int32) (h : AHeap) : Option (Int32 × AHeap) :=
  (pfV h t0 5 3 (.int t1)).bind fun h5 => (gfR h5 v0 5 0).bind fun a6 => (gfI h5 v0 5 3).bind fun x7 => (aldR h5 a6 x7).bind fun a8 => (chk h5 v1 8).bind fun _ => bnd2 (Stat_copyFrom v1 a8 h5) fun _ h9 => (gfR h9 v0 5 1).bind fun a10 => (gfI h9 v0 5 3).bind fun x11 => (ald 0 h9 a10 x11).bind fun x12 => some (x12, h9)
theorem Hist_takeBack_j38_J {E : JE} {l : Launch} {G : GX} {v : Int32} {h' : AHeap} (ok : JOK E l G kHist_takeBack 0 0 (some (.int v)) h') (v0 : Nat) (v1 : Nat) (t0 : Nat) (t1 : Int32) (h : AHeap) : J E kHist_takeBack (Hist_takeBack_j38 v0 v1 t0 t1 h) (fun z => z = (v, h')) 38 [some (.ref v0), some (.ref v1)] [.int t1, .ref t0] h 0 0 := by
  unfold Hist_takeBack_j38
  refine J_putI (ci := 5) (kf := 3) (C := RX5) (T := TX5) (N := 4) (pc' := 41) ok tyX5 (dOf dX5_takeBack 21 rfl) rfl rfl (by decide) win_5 tyX5_ok nmX5 rfl rfl wfl_X5_22 (fun h5 _ => ?_)
  refine J_aload_n (pc' := 42) ok (dOf dX5_takeBack 22 rfl) rfl rfl rfl ?_
  refine J_aload_n (pc' := 43) ok (dOf dX5_takeBack 23 rfl) rfl rfl rfl ?_
  refine J_getR (ci := 5) (kf := 0) (C := RX5) (T := TX5) (N := 4) (pc' := 46) ok (dOf dX5_takeBack 24 rfl) rfl (by decide) rfl (by decide) win_5 wfl_X5_11 (fun a6 => ?_)
  refine J_aload_n (pc' := 47) ok (dOf dX5_takeBack 25 rfl) rfl rfl rfl ?_
  refine J_getI (ci := 5) (kf := 3) (C := RX5) (T := TX5) (N := 4) (pc' := 50) ok (dOf dX5_takeBack 26 rfl) rfl (by decide) rfl (by decide) win_5 wfl_X5_22 (fun x7 => ?_)
  refine J_aldR (pc' := 51) ok (dOf dX5_takeBack 27 rfl) rfl (fun a8 => ?_)
  refine J_callVv (k2 := kStat_copyFrom) (ci := 8) (T := TX8) (N := 3) (as := [.ref a8]) (pc' := 54) ok (dOf dX5_takeBack 28 rfl) rfl (cw_Stat_copyFrom (by decide) (by decide)) wml_X5_26 winst_X8_copyFrom wsel_X8_copyFrom rfl ⟨Nat.le_refl 0, Nat.le_refl 0⟩ (Nat.le_of_ble_eq_true rfl) rfl (fun _ _ hf => t_Stat_copyFrom hf) (fun _ h9 => ?_)
  refine J_aload_n (pc' := 55) ok (dOf dX5_takeBack 29 rfl) rfl rfl rfl ?_
  refine J_getR (ci := 5) (kf := 1) (C := RX5) (T := TX5) (N := 4) (pc' := 58) ok (dOf dX5_takeBack 30 rfl) rfl (by decide) rfl (by decide) win_5 wfl_X5_17 (fun a10 => ?_)
  refine J_aload_n (pc' := 59) ok (dOf dX5_takeBack 31 rfl) rfl rfl rfl ?_
  refine J_getI (ci := 5) (kf := 3) (C := RX5) (T := TX5) (N := 4) (pc' := 62) ok (dOf dX5_takeBack 32 rfl) rfl (by decide) rfl (by decide) win_5 wfl_X5_22 (fun x11 => ?_)
  refine J_iald (pc' := 63) ok (dOf dX5_takeBack 33 rfl) rfl (fun x12 => ?_)
  exact J_ireturn ok (dOf dX5_takeBack 34 rfl) rfl (Eq.refl 0) (Nat.le_refl 0)
def Hist_takeBack (v0 : Nat) (v1 : Nat) (h : AHeap) : Option (Int32 × AHeap) :=
  (gfI h v0 5 2).bind fun x1 => (if ¬ x1 = 0 then (gfI h v0 5 2).bind fun x2 => (pfV h v0 5 2 (.int (x2 - 1))).bind fun h3 => (gfI h3 v0 5 3).bind fun x4 => (if x4 ≤ 0 then Hist_takeBack_j38 v0 v1 v0 11 h3 else (gfI h3 v0 5 3).bind fun x13 => Hist_takeBack_j38 v0 v1 v0 (x13 - 1) h3) else some ((-1), h))
theorem t_Hist_takeBack {l : Launch} {G : GX} {v0 : Nat} {v1 : Nat} {h : AHeap} {v : Int32} {h1 : AHeap} (hf : Hist_takeBack v0 v1 h = some (v, h1)) : CT l G kHist_takeBack 0 0 [.ref v0, .ref v1] h (some (.int v)) h1 := by
  refine CT_of (ls := [some (.ref v0), some (.ref v1)]) (Z := fun z => z = (v, h1)) (by decide +kernel) (Nat.le_of_ble_eq_true rfl) hf rfl ⟨rfl, rfl, trivial⟩ (fun E ok => ?_)
  unfold Hist_takeBack
  refine J_aload_n (pc' := 1) ok (dOf dX5_takeBack 0 rfl) rfl rfl rfl ?_
  refine J_getI (ci := 5) (kf := 2) (C := RX5) (T := TX5) (N := 4) (pc' := 4) ok (dOf dX5_takeBack 1 rfl) rfl (by decide) rfl (by decide) win_5 wfl_X5_30 (fun x1 => ?_)
  refine J_if_ne (tgt := 9) (pc' := 7) ok (dOf dX5_takeBack 2 rfl) rfl (by decide) ?_ ?_
  · refine J_aload_n (pc' := 10) ok (dOf dX5_takeBack 5 rfl) rfl rfl rfl ?_
    refine J_dup (pc' := 11) ok (dOf dX5_takeBack 6 rfl) rfl rfl ?_
    refine J_getI (ci := 5) (kf := 2) (C := RX5) (T := TX5) (N := 4) (pc' := 14) ok (dOf dX5_takeBack 7 rfl) rfl (by decide) rfl (by decide) win_5 wfl_X5_30 (fun x2 => ?_)
    refine J_iconst (v := 1) (pc' := 15) ok (dOf dX5_takeBack 8 rfl) rfl (by decide) ?_
    refine J_isub (pc' := 16) ok (dOf dX5_takeBack 9 rfl) rfl ?_
    refine J_putI (ci := 5) (kf := 2) (C := RX5) (T := TX5) (N := 4) (pc' := 19) ok tyX5 (dOf dX5_takeBack 10 rfl) rfl rfl (by decide) win_5 tyX5_ok nmX5 rfl rfl wfl_X5_30 (fun h3 _ => ?_)
    refine J_aload_n (pc' := 20) ok (dOf dX5_takeBack 11 rfl) rfl rfl rfl ?_
    refine J_aload_n (pc' := 21) ok (dOf dX5_takeBack 12 rfl) rfl rfl rfl ?_
    refine J_getI (ci := 5) (kf := 3) (C := RX5) (T := TX5) (N := 4) (pc' := 24) ok (dOf dX5_takeBack 13 rfl) rfl (by decide) rfl (by decide) win_5 wfl_X5_22 (fun x4 => ?_)
    refine J_if_le (tgt := 36) (pc' := 27) ok (dOf dX5_takeBack 14 rfl) rfl (by decide) ?_ ?_
    · refine J_bipush (v := 11) (pc' := 38) ok (dOf dX5_takeBack 20 rfl) rfl (by decide) ?_
      exact Hist_takeBack_j38_J ok v0 v1 v0 11 h3
    · refine J_aload_n (pc' := 28) ok (dOf dX5_takeBack 15 rfl) rfl rfl rfl ?_
      refine J_getI (ci := 5) (kf := 3) (C := RX5) (T := TX5) (N := 4) (pc' := 31) ok (dOf dX5_takeBack 16 rfl) rfl (by decide) rfl (by decide) win_5 wfl_X5_22 (fun x13 => ?_)
      refine J_iconst (v := 1) (pc' := 32) ok (dOf dX5_takeBack 17 rfl) rfl (by decide) ?_
      refine J_isub (pc' := 33) ok (dOf dX5_takeBack 18 rfl) rfl ?_
      refine J_goto (tgt := 38) ok (dOf dX5_takeBack 19 rfl) (by decide) ?_
      exact Hist_takeBack_j38_J ok v0 v1 v0 (x13 - 1) h3
  · refine J_iconst (v := (-1)) (pc' := 8) ok (dOf dX5_takeBack 3 rfl) rfl (by decide) ?_
    exact J_ireturn ok (dOf dX5_takeBack 4 rfl) rfl (Eq.refl 0) (Nat.le_refl 0)
-- X10_forgetDerived
abbrev kSp_forgetDerived : Cd := (yX10_forgetDerived, cX10_forgetDerived, 1, none, 2, 44)
theorem dX10_forgetDerived : dcheck cX10_forgetDerived [(0, .aload_n 0, 1), (1, .getfield 23, 3), (4, .getfield 126, 3), (7, .invokevirtual 130, 3), (10, .aload_n 0, 1), (11, .getfield 23, 3), (14, .getfield 208, 3), (17, .iconst 1, 1), (18, .putfield 212, 3), (21, .return_, 1)] = true := by decide +kernel
theorem cw_Sp_forgetDerived {k : Cd} (h1 : kSp_forgetDerived.2.2.2.2.1 + 1 ≤ k.2.2.2.2.1) (h2 : 8 + (kSp_forgetDerived.2.2.1 + 11) + kSp_forgetDerived.2.2.2.2.2 ≤ k.2.2.2.2.2) : Cw k kSp_forgetDerived 0 := ⟨wcode_X10_forgetDerived, wini_SplitProgram, ⟨by decide, by decide, by decide +kernel⟩, h1, h2⟩
def Sp_forgetDerived (v0 : Nat) (h : AHeap) : Option (Unit × AHeap) :=
  (gfR h v0 10 2).bind fun a1 => (gfR h a1 3 0).bind fun a2 => (chk h a2 0).bind fun _ => bnd2 (Book_forgetAll a2 h) fun _ h3 => (gfR h3 v0 10 2).bind fun a4 => (gfR h3 a4 3 1).bind fun a5 => (bz 1).bind fun x7 => (pfV h3 a5 1 0 (.int x7)).bind fun h6 => some ((), h6)
theorem t_Sp_forgetDerived {l : Launch} {G : GX} {v0 : Nat} {h : AHeap} {h1 : AHeap} (hf : Sp_forgetDerived v0 h = some ((), h1)) : CT l G kSp_forgetDerived 0 0 [.ref v0] h none h1 := by
  refine CT_of (ls := [some (.ref v0)]) (Z := fun z => z = ((), h1)) (by decide +kernel) (Nat.le_of_ble_eq_true rfl) hf rfl ⟨rfl, trivial⟩ (fun E ok => ?_)
  unfold Sp_forgetDerived
  refine J_aload_n (pc' := 1) ok (dOf dX10_forgetDerived 0 rfl) rfl rfl rfl ?_
  refine J_getR (ci := 10) (kf := 2) (C := RX10) (T := TX10) (N := 14) (pc' := 4) ok (dOf dX10_forgetDerived 1 rfl) rfl (by decide) rfl (by decide) win_10 wfl_X10_23 (fun a1 => ?_)
  refine J_getR (ci := 3) (kf := 0) (C := RX3) (T := TX3) (N := 12) (pc' := 7) ok (dOf dX10_forgetDerived 2 rfl) rfl (by decide) rfl (by decide) win_3 wfl_X10_126 (fun a2 => ?_)
  refine J_callVv (k2 := kBook_forgetAll) (ci := 0) (T := TX0) (N := 2) (as := []) (pc' := 10) ok (dOf dX10_forgetDerived 3 rfl) rfl (cw_Book_forgetAll (by decide) (by decide)) wml_X10_130 winst_X0_forgetAll wsel_X0_forgetAll rfl ⟨Nat.le_refl 0, Nat.le_refl 0⟩ (Nat.le_of_ble_eq_true rfl) rfl (fun _ _ hf => t_Book_forgetAll hf) (fun _ h3 => ?_)
  refine J_aload_n (pc' := 11) ok (dOf dX10_forgetDerived 4 rfl) rfl rfl rfl ?_
  refine J_getR (ci := 10) (kf := 2) (C := RX10) (T := TX10) (N := 14) (pc' := 14) ok (dOf dX10_forgetDerived 5 rfl) rfl (by decide) rfl (by decide) win_10 wfl_X10_23 (fun a4 => ?_)
  refine J_getR (ci := 3) (kf := 1) (C := RX3) (T := TX3) (N := 12) (pc' := 17) ok (dOf dX10_forgetDerived 6 rfl) rfl (by decide) rfl (by decide) win_3 wfl_X10_208 (fun a5 => ?_)
  refine J_iconst (v := 1) (pc' := 18) ok (dOf dX10_forgetDerived 7 rfl) rfl (by decide) ?_
  refine J_putZ (ci := 1) (kf := 0) (C := RX1) (T := TX1) (N := 3) (pc' := 21) ok tyX1 (dOf dX10_forgetDerived 8 rfl) rfl rfl (by decide) win_1 tyX1_ok nmX1 rfl rfl wfl_X10_212 (fun h6 _ => ?_)
  exact J_vreturn ok (dOf dX10_forgetDerived 9 rfl) rfl (Eq.refl 0) (Nat.le_refl 0)
-- X10_undo
abbrev kSp_undo : Cd := (yX10_undo, cX10_undo, 2, (some .int), 4, 108)
theorem dX10_undo : dcheck cX10_undo [(0, .aload_n 0, 1), (1, .getfield 44, 3), (4, .aload_n 0, 1), (5, .getfield 10, 3), (8, .invokevirtual 218, 3), (11, .istore_n 1, 1), (12, .iload_n 1, 1), (13, .iconst (-1), 1), (14, .if_icmp .ne 10, 3), (17, .aload_n 0, 1), (18, .bipush (-4), 2), (20, .invokevirtual 81, 3), (23, .ireturn, 1), (24, .aload_n 0, 1), (25, .invokevirtual 222, 3), (28, .aload_n 0, 1), (29, .iload_n 1, 1), (30, .invokevirtual 91, 3), (33, .ireturn, 1)] = true := by decide +kernel
theorem cw_Sp_undo {k : Cd} (h1 : kSp_undo.2.2.2.2.1 + 1 ≤ k.2.2.2.2.1) (h2 : 8 + (kSp_undo.2.2.1 + 11) + kSp_undo.2.2.2.2.2 ≤ k.2.2.2.2.2) : Cw k kSp_undo 0 := ⟨wcode_X10_undo, wini_SplitProgram, ⟨by decide, by decide, by decide +kernel⟩, h1, h2⟩
def Sp_undo (v0 : Nat) (h : AHeap) : Option (Int32 × AHeap) :=
  (gfR h v0 10 5).bind fun a1 => (gfR h v0 10 0).bind fun a2 => (chk h a1 5).bind fun _ => bnd2 (Hist_takeBack a1 a2 h) fun x4 h3 => (if ¬ x4 = (-1) then (chk h3 v0 10).bind fun _ => bnd2 (Sp_forgetDerived v0 h3) fun _ h5 => (chk h5 v0 10).bind fun _ => bnd2 (Sp_accept v0 x4 h5) fun x7 h6 => some (x7, h6) else (chk h3 v0 10).bind fun _ => bnd2 (Sp_refuse v0 (-4) h3) fun x9 h8 => some (x9, h8))
theorem t_Sp_undo {l : Launch} {G : GX} {v0 : Nat} {h : AHeap} {v : Int32} {h1 : AHeap} (hf : Sp_undo v0 h = some (v, h1)) : CT l G kSp_undo 0 0 [.ref v0] h (some (.int v)) h1 := by
  refine CT_of (ls := [some (.ref v0), none]) (Z := fun z => z = (v, h1)) (by decide +kernel) (Nat.le_of_ble_eq_true rfl) hf rfl ⟨rfl, trivial⟩ (fun E ok => ?_)
  unfold Sp_undo
  refine J_aload_n (pc' := 1) ok (dOf dX10_undo 0 rfl) rfl rfl rfl ?_
  refine J_getR (ci := 10) (kf := 5) (C := RX10) (T := TX10) (N := 14) (pc' := 4) ok (dOf dX10_undo 1 rfl) rfl (by decide) rfl (by decide) win_10 wfl_X10_44 (fun a1 => ?_)
  refine J_aload_n (pc' := 5) ok (dOf dX10_undo 2 rfl) rfl rfl rfl ?_
  refine J_getR (ci := 10) (kf := 0) (C := RX10) (T := TX10) (N := 14) (pc' := 8) ok (dOf dX10_undo 3 rfl) rfl (by decide) rfl (by decide) win_10 wfl_X10_10 (fun a2 => ?_)
  refine J_callVi (k2 := kHist_takeBack) (ci := 5) (T := TX5) (N := 4) (as := [.ref a2]) (pc' := 11) ok (dOf dX10_undo 4 rfl) rfl (cw_Hist_takeBack (by decide) (by decide)) wml_X10_218 winst_X5_takeBack wsel_X5_takeBack rfl ⟨Nat.le_refl 0, Nat.le_refl 0⟩ (Nat.le_of_ble_eq_true rfl) rfl (fun _ _ hf => t_Hist_takeBack hf) (fun x4 h3 => ?_)
  refine J_istore_n (ls' := [some (.ref v0), some (.int x4)]) (pc' := 12) ok (dOf dX10_undo 5 rfl) rfl rfl (Nat.le_of_ble_eq_true rfl) rfl rfl ?_
  refine J_iload_n (pc' := 13) ok (dOf dX10_undo 6 rfl) rfl rfl rfl ?_
  refine J_iconst (v := (-1)) (pc' := 14) ok (dOf dX10_undo 7 rfl) rfl (by decide) ?_
  refine J_icmp_ne (tgt := 24) (pc' := 17) ok (dOf dX10_undo 8 rfl) rfl (by decide) ?_ ?_
  · refine J_aload_n (pc' := 25) ok (dOf dX10_undo 13 rfl) rfl rfl rfl ?_
    refine J_callVv (k2 := kSp_forgetDerived) (ci := 10) (T := TX10) (N := 14) (as := []) (pc' := 28) ok (dOf dX10_undo 14 rfl) rfl (cw_Sp_forgetDerived (by decide) (by decide)) wml_X10_222 winst_X10_forgetDerived wsel_X10_forgetDerived rfl ⟨Nat.le_refl 0, Nat.le_refl 0⟩ (Nat.le_of_ble_eq_true rfl) rfl (fun _ _ hf => t_Sp_forgetDerived hf) (fun _ h5 => ?_)
    refine J_aload_n (pc' := 29) ok (dOf dX10_undo 15 rfl) rfl rfl rfl ?_
    refine J_iload_n (pc' := 30) ok (dOf dX10_undo 16 rfl) rfl rfl rfl ?_
    refine J_callVi (k2 := kSp_accept) (ci := 10) (T := TX10) (N := 14) (as := [.int x4]) (pc' := 33) ok (dOf dX10_undo 17 rfl) rfl (cw_Sp_accept (by decide) (by decide)) wml_X10_91 winst_X10_accept wsel_X10_accept rfl ⟨Nat.le_refl 0, Nat.le_refl 0⟩ (Nat.le_of_ble_eq_true rfl) rfl (fun _ _ hf => t_Sp_accept hf) (fun x7 h6 => ?_)
    exact J_ireturn ok (dOf dX10_undo 18 rfl) rfl (Eq.refl 0) (Nat.le_refl 0)
  · refine J_aload_n (pc' := 18) ok (dOf dX10_undo 9 rfl) rfl rfl rfl ?_
    refine J_bipush (v := (-4)) (pc' := 20) ok (dOf dX10_undo 10 rfl) rfl (by decide) ?_
    refine J_callVi (k2 := kSp_refuse) (ci := 10) (T := TX10) (N := 14) (as := [.int (-4)]) (pc' := 23) ok (dOf dX10_undo 11 rfl) rfl (cw_Sp_refuse (by decide) (by decide)) wml_X10_81 winst_X10_refuse wsel_X10_refuse rfl ⟨Nat.le_refl 0, Nat.le_refl 0⟩ (Nat.le_of_ble_eq_true rfl) rfl (fun _ _ hf => t_Sp_refuse hf) (fun x9 h8 => ?_)
    exact J_ireturn ok (dOf dX10_undo 12 rfl) rfl (Eq.refl 0) (Nat.le_refl 0)
-- X10_of
abbrev kSp_of : Cd := (yX10_of, cX10_of, 4, (some .int), 1, 22)
theorem dX10_of : dcheck cX10_of [(0, .aload_n 0, 1), (1, .getfield 10, 3), (4, .getfield 113, 3), (7, .astore_n 3, 1), (8, .aload_n 3, 1), (9, .iload_n 1, 1), (10, .invokevirtual 155, 3), (13, .ifCond .ne 5, 3), (16, .iconst (-1), 1), (17, .ireturn, 1), (18, .iload_n 2, 1), (19, .ifCond .lt 15, 3), (22, .iload_n 2, 1), (23, .iconst 2, 1), (24, .if_icmp .gt 10, 3), (27, .aload_n 3, 1), (28, .iload_n 1, 1), (29, .iload_n 2, 1), (30, .invokevirtual 180, 3), (33, .ireturn, 1), (34, .iload_n 2, 1), (35, .iconst 3, 1), (36, .if_icmp .lt 13, 3), (39, .aload_n 3, 1), (40, .iload_n 2, 1), (41, .iconst 3, 1), (42, .isub, 1), (43, .invokevirtual 159, 3), (46, .ifCond .ne 5, 3), (49, .iconst (-1), 1), (50, .ireturn, 1), (51, .aload_n 3, 1), (52, .getfield 162, 3), (55, .iload_n 1, 1), (56, .bipush 6, 2), (58, .imul, 1), (59, .iload_n 2, 1), (60, .iadd, 1), (61, .iconst 3, 1), (62, .isub, 1), (63, .iaload, 1), (64, .ireturn, 1)] = true := by decide +kernel
theorem cw_Sp_of {k : Cd} (h1 : kSp_of.2.2.2.2.1 + 1 ≤ k.2.2.2.2.1) (h2 : 8 + (kSp_of.2.2.1 + 11) + kSp_of.2.2.2.2.2 ≤ k.2.2.2.2.2) : Cw k kSp_of 2 := ⟨wcode_X10_of, wini_SplitProgram, ⟨by decide, by decide, by decide +kernel⟩, h1, h2⟩
def Sp_of_j49 (v0 : Nat) (v1 : Int32) (v2 : Int32) (v3 : Nat) (h : AHeap) : Option (Int32 × AHeap) :=
  some ((-1), h)
theorem Sp_of_j49_J {E : JE} {l : Launch} {G : GX} {v : Int32} {h' : AHeap} (ok : JOK E l G kSp_of 0 0 (some (.int v)) h') (v0 : Nat) (v1 : Int32) (v2 : Int32) (v3 : Nat) (h : AHeap) : J E kSp_of (Sp_of_j49 v0 v1 v2 v3 h) (fun z => z = (v, h')) 49 [some (.ref v0), some (.int v1), some (.int v2), some (.ref v3)] [] h 0 0 := by
  unfold Sp_of_j49
  refine J_iconst (v := (-1)) (pc' := 50) ok (dOf dX10_of 29 rfl) rfl (by decide) ?_
  exact J_ireturn ok (dOf dX10_of 30 rfl) rfl (Eq.refl 0) (Nat.le_refl 0)
def Sp_of_j34 (v0 : Nat) (v1 : Int32) (v2 : Int32) (v3 : Nat) (h : AHeap) : Option (Int32 × AHeap) :=
  (if v2 < 3 then Sp_of_j49 v0 v1 v2 v3 h else (chk h v3 6).bind fun _ => bnd2 (Prog_hasSite v3 (v2 - 3) h) fun x6 h5 => (if ¬ x6 = 0 then (gfR h5 v3 6 6).bind fun a7 => (ald 0 h5 a7 (((v1 * 6) + v2) - 3)).bind fun x8 => some (x8, h5) else Sp_of_j49 v0 v1 v2 v3 h5))
theorem Sp_of_j34_J {E : JE} {l : Launch} {G : GX} {v : Int32} {h' : AHeap} (ok : JOK E l G kSp_of 0 0 (some (.int v)) h') (v0 : Nat) (v1 : Int32) (v2 : Int32) (v3 : Nat) (h : AHeap) : J E kSp_of (Sp_of_j34 v0 v1 v2 v3 h) (fun z => z = (v, h')) 34 [some (.ref v0), some (.int v1), some (.int v2), some (.ref v3)] [] h 0 0 := by
  unfold Sp_of_j34
  refine J_iload_n (pc' := 35) ok (dOf dX10_of 20 rfl) rfl rfl rfl ?_
  refine J_iconst (v := 3) (pc' := 36) ok (dOf dX10_of 21 rfl) rfl (by decide) ?_
  refine J_icmp_lt (tgt := 49) (pc' := 39) ok (dOf dX10_of 22 rfl) rfl (by decide) ?_ ?_
  · exact Sp_of_j49_J ok v0 v1 v2 v3 h
  · refine J_aload_n (pc' := 40) ok (dOf dX10_of 23 rfl) rfl rfl rfl ?_
    refine J_iload_n (pc' := 41) ok (dOf dX10_of 24 rfl) rfl rfl rfl ?_
    refine J_iconst (v := 3) (pc' := 42) ok (dOf dX10_of 25 rfl) rfl (by decide) ?_
    refine J_isub (pc' := 43) ok (dOf dX10_of 26 rfl) rfl ?_
    refine J_callVi (k2 := kProg_hasSite) (ci := 6) (T := TX6) (N := 9) (as := [.int (v2 - 3)]) (pc' := 46) ok (dOf dX10_of 27 rfl) rfl (cw_Prog_hasSite (by decide) (by decide)) wml_X10_159 winst_X6_hasSite wsel_X6_hasSite rfl ⟨Nat.le_refl 0, Nat.le_refl 0⟩ (Nat.le_of_ble_eq_true rfl) rfl (fun _ _ hf => t_Prog_hasSite hf) (fun x6 h5 => ?_)
    refine J_if_ne (tgt := 51) (pc' := 49) ok (dOf dX10_of 28 rfl) rfl (by decide) ?_ ?_
    · refine J_aload_n (pc' := 52) ok (dOf dX10_of 31 rfl) rfl rfl rfl ?_
      refine J_getR (ci := 6) (kf := 6) (C := RX6) (T := TX6) (N := 9) (pc' := 55) ok (dOf dX10_of 32 rfl) rfl (by decide) rfl (by decide) win_6 wfl_X10_162 (fun a7 => ?_)
      refine J_iload_n (pc' := 56) ok (dOf dX10_of 33 rfl) rfl rfl rfl ?_
      refine J_bipush (v := 6) (pc' := 58) ok (dOf dX10_of 34 rfl) rfl (by decide) ?_
      refine J_imul (pc' := 59) ok (dOf dX10_of 35 rfl) rfl ?_
      refine J_iload_n (pc' := 60) ok (dOf dX10_of 36 rfl) rfl rfl rfl ?_
      refine J_iadd (pc' := 61) ok (dOf dX10_of 37 rfl) rfl ?_
      refine J_iconst (v := 3) (pc' := 62) ok (dOf dX10_of 38 rfl) rfl (by decide) ?_
      refine J_isub (pc' := 63) ok (dOf dX10_of 39 rfl) rfl ?_
      refine J_iald (pc' := 64) ok (dOf dX10_of 40 rfl) rfl (fun x8 => ?_)
      exact J_ireturn ok (dOf dX10_of 41 rfl) rfl (Eq.refl 0) (Nat.le_refl 0)
    · exact Sp_of_j49_J ok v0 v1 v2 v3 h5
def Sp_of (v0 : Nat) (v1 : Int32) (v2 : Int32) (h : AHeap) : Option (Int32 × AHeap) :=
  (gfR h v0 10 0).bind fun a1 => (gfR h a1 8 0).bind fun a2 => (chk h a2 6).bind fun _ => bnd2 (Prog_hasPlant a2 v1 h) fun x4 h3 => (if ¬ x4 = 0 then (if v2 < 0 then Sp_of_j34 v0 v1 v2 a2 h3 else (if 2 < v2 then Sp_of_j34 v0 v1 v2 a2 h3 else (chk h3 a2 6).bind fun _ => bnd2 (Prog_plantValue a2 v1 v2 h3) fun x10 h9 => some (x10, h9))) else some ((-1), h3))
theorem t_Sp_of {l : Launch} {G : GX} {v0 : Nat} {v1 : Int32} {v2 : Int32} {h : AHeap} {v : Int32} {h1 : AHeap} (hf : Sp_of v0 v1 v2 h = some (v, h1)) : CT l G kSp_of 0 0 [.ref v0, .int v1, .int v2] h (some (.int v)) h1 := by
  refine CT_of (ls := [some (.ref v0), some (.int v1), some (.int v2), none]) (Z := fun z => z = (v, h1)) (by decide +kernel) (Nat.le_of_ble_eq_true rfl) hf rfl ⟨rfl, rfl, rfl, trivial⟩ (fun E ok => ?_)
  unfold Sp_of
  refine J_aload_n (pc' := 1) ok (dOf dX10_of 0 rfl) rfl rfl rfl ?_
  refine J_getR (ci := 10) (kf := 0) (C := RX10) (T := TX10) (N := 14) (pc' := 4) ok (dOf dX10_of 1 rfl) rfl (by decide) rfl (by decide) win_10 wfl_X10_10 (fun a1 => ?_)
  refine J_getR (ci := 8) (kf := 0) (C := RX8) (T := TX8) (N := 3) (pc' := 7) ok (dOf dX10_of 2 rfl) rfl (by decide) rfl (by decide) win_8 wfl_X10_113 (fun a2 => ?_)
  refine J_astore_n (ls' := [some (.ref v0), some (.int v1), some (.int v2), some (.ref a2)]) (pc' := 8) ok (dOf dX10_of 3 rfl) rfl rfl (Nat.le_of_ble_eq_true rfl) rfl rfl ?_
  refine J_aload_n (pc' := 9) ok (dOf dX10_of 4 rfl) rfl rfl rfl ?_
  refine J_iload_n (pc' := 10) ok (dOf dX10_of 5 rfl) rfl rfl rfl ?_
  refine J_callVi (k2 := kProg_hasPlant) (ci := 6) (T := TX6) (N := 9) (as := [.int v1]) (pc' := 13) ok (dOf dX10_of 6 rfl) rfl (cw_Prog_hasPlant (by decide) (by decide)) wml_X10_155 winst_X6_hasPlant wsel_X6_hasPlant rfl ⟨Nat.le_refl 0, Nat.le_refl 0⟩ (Nat.le_of_ble_eq_true rfl) rfl (fun _ _ hf => t_Prog_hasPlant hf) (fun x4 h3 => ?_)
  refine J_if_ne (tgt := 18) (pc' := 16) ok (dOf dX10_of 7 rfl) rfl (by decide) ?_ ?_
  · refine J_iload_n (pc' := 19) ok (dOf dX10_of 10 rfl) rfl rfl rfl ?_
    refine J_if_lt (tgt := 34) (pc' := 22) ok (dOf dX10_of 11 rfl) rfl (by decide) ?_ ?_
    · exact Sp_of_j34_J ok v0 v1 v2 a2 h3
    · refine J_iload_n (pc' := 23) ok (dOf dX10_of 12 rfl) rfl rfl rfl ?_
      refine J_iconst (v := 2) (pc' := 24) ok (dOf dX10_of 13 rfl) rfl (by decide) ?_
      refine J_icmp_gt (tgt := 34) (pc' := 27) ok (dOf dX10_of 14 rfl) rfl (by decide) ?_ ?_
      · exact Sp_of_j34_J ok v0 v1 v2 a2 h3
      · refine J_aload_n (pc' := 28) ok (dOf dX10_of 15 rfl) rfl rfl rfl ?_
        refine J_iload_n (pc' := 29) ok (dOf dX10_of 16 rfl) rfl rfl rfl ?_
        refine J_iload_n (pc' := 30) ok (dOf dX10_of 17 rfl) rfl rfl rfl ?_
        refine J_callVi (k2 := kProg_plantValue) (ci := 6) (T := TX6) (N := 9) (as := [.int v1, .int v2]) (pc' := 33) ok (dOf dX10_of 18 rfl) rfl (cw_Prog_plantValue (by decide) (by decide)) wml_X10_180 winst_X6_plantValue wsel_X6_plantValue rfl ⟨Nat.le_refl 0, Nat.le_refl 0⟩ (Nat.le_of_ble_eq_true rfl) rfl (fun _ _ hf => t_Prog_plantValue hf) (fun x10 h9 => ?_)
        exact J_ireturn ok (dOf dX10_of 19 rfl) rfl (Eq.refl 0) (Nat.le_refl 0)
  · refine J_iconst (v := (-1)) (pc' := 17) ok (dOf dX10_of 8 rfl) rfl (by decide) ?_
    exact J_ireturn ok (dOf dX10_of 9 rfl) rfl (Eq.refl 0) (Nat.le_refl 0)
