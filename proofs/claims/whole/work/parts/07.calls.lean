/-! calls -/
def chk (h : AHeap) (b ci : Nat) : Option Unit := match h[b]? with
  | some (.inl o) => if o.1 = ci then some () else none
  | _ => none
theorem chk_spec {h : AHeap} {b ci : Nat} {u : Unit} (hv : chk h b ci = some u) : ∃ fs, h[b]? = some (.inl (ci, fs)) := by
  unfold chk at hv
  split at hv
  · rename_i o ho
    split at hv
    · rename_i e
      exact ⟨o.2, by rw [ho, ← e]⟩
    · cases hv
  · cases hv
theorem PC_blind {G : GX} {av : List Value} {h : AHeap} : FrameBlind (PC G av h) := fun a U g mk q => by
  obtain ⟨q0, q1, q2, q3⟩ := q
  exact ⟨q0, q1, q2, SF.same (s := U) (U := U.calling g mk a) q3 rfl⟩
theorem PC_at {G : GX} {s U : State} {H : Heap} {locs : List Loc} {av : List Value} {h : AHeap} (hSF : SF G s s.heap) (hS : va_S (gA G) s.heap H locs) (hRH : RH G h H) (hz : H.size = gB G + h.length) (hU : U.heap = H) (hW : s.WarmedH U.vm) : PC G av h (av.map (vc G)).toArray U := by
  refine ⟨rfl, by rw [hU]; exact hz, by rw [hU]; exact hRH, ?_⟩
  rw [hU]
  exact (hSF.kept hS.2.1).warm hW
theorem cat_sum {G : GX} (hG : G.2.2.2.2.category = 1) (st : List Value) : ((st.map (vc G)).map fun v => v.category).sum = (st.map fun v => v.category).sum := by
  congr 1
  rw [List.map_map]
  apply List.map_congr_left
  intro v _
  exact vc_cat hG v
theorem cdW_good {k : Cd} (hcode : Cond.code k.1 k.2.1 k.2.2.1 k.2.2.2.1 ∈ gw) : GoodIn gw (cdW k) := fun w hw => by
  rcases List.mem_cons.mp hw with rfl | hw
  · exact gw_good _ hcode
  · exact gw_good _ hw
/-- a method's words at a call: what is the same for all kinds of it -/
def Cw (k k2 : Cd) (n : Nat) : Prop := Cond.code k2.1 k2.2.1 k2.2.2.1 k2.2.2.2.1 ∈ gw ∧ Cond.initialized k2.1.cls ∈ gw ∧ (k2.1.cls ≠ "java/lang/invoke/MethodHandle" ∧ k2.1.cls ≠ "java/lang/invoke/VarHandle" ∧ (parseMethodDescriptor k2.1.desc).map (fun d => d.parameters.length) = some n) ∧ (k2.2.2.2.2.1 + 1 ≤ k.2.2.2.2.1 ∧ 8 + (k2.2.2.1 + 11) + k2.2.2.2.2.2 ≤ k.2.2.2.2.2)
section Calls
variable {E : JE} {l : Launch} {G : GX} {k : Cd} {mc ms : Nat} {r : Option Value} {h' : AHeap} {β : Type} {M : Option β} {Z : β → Prop} {pc : Nat} {ls : List (Option Value)} {st : List Value} {h : AHeap} {kc ks : Nat}

theorem J_callVi (ok : JOK E l G k mc ms r h') {k2 : Cd} {idx : Nat} {b : Nat} {ci N : Nat} {T : u_T} {as : List Value} {stk : List Value} {F : Option (Int32 × AHeap)} {f : Int32 → AHeap → Option β} (hd : decode k.2.1 pc = .ok (.invokevirtual idx, 3)) {pc' : Nat} (he : pc + 3 = pc') (hw : Cw k k2 as.length) (hlink : Cond.methodLink k.1.cls idx k2.1 ∈ gw) (hinst : Cond.instanceMethod k2.1 ∈ gw) (hsel : Cond.selects k2.1.cls k2.1 k2.1 ∈ gw) (hcl : vwCl[ci]? = some (k2.1.cls, T, N)) (hfit : kc ≤ mc ∧ ks ≤ ms) (hcat : (st.map fun v => v.category).sum ≤ 8) (hst : stk = as.reverse ++ .ref b :: st) (hC : ∀ x h1, F = some (x, h1) → CT l G k2 0 0 (.ref b :: as) h (some (.int x)) h1) (kk : ∀ (x : Int32) (h1 : AHeap), J E k (f x h1) Z pc' ls (.int x :: st) h1 kc ks) : J E k ((chk h b ci).bind fun _ => bnd2 F f) Z pc ls stk h kc ks := by
  subst he
  obtain ⟨p, l0, e, R, s, m, args, below, meth, c, G0, r0, h0, mc0, ms0⟩ := E
  obtain ⟨⟨rfl, rfl, rfl, rfl, rfl, rfl⟩, hR, hx, hb, hml, hr, hown, hts, hlk, hnm, hSF, hge⟩ := ok
  intro z hz hZ H locs la hsz hRH hS hl
  obtain ⟨u0, hu0, hz⟩ := Option.bind_eq_some_iff.mp hz
  obtain ⟨fs0, hfs0⟩ := chk_spec hu0
  obtain ⟨⟨x, h1⟩, hF, hz⟩ := Option.bind_eq_some_iff.mp hz
  have hM := hC x h1 hF
  refine W.sz (fun hsz2 => ?_)
  have hge2 := RH.ge (Nat.le_trans hge hS.1) hRH
  have hHz : H.size = gB G0 + h.length := by omega
  have hrec : ∃ cellB : Cell, H[gAd G0 b]? = some cellB ∧ cellB.vm.isStatics = false ∧ s.vm.findClass k2.1.cls = some cellB.cls := by
    rw [gAd_lt (ltFB hRH.1 hfs0)]
    exact va_recv hSF.2.1 hRH.2 hcl (wsO_get hfs0)
  refine va_calli (va_runV (As := as.map (vc G0)) (rest := st.map (vc G0)) (C := k2.1.cls) ⟨hx, hb, hml, hown, hts⟩ hM ⟨callB_of as.length hts (cdW_good hw.1) rfl rfl rfl (hts _ hw.2.1) (hts _ hlink) hw.2.2.1 (by rw [hR]; exact hw.2.2.2), hts _ hinst, hts _ hsel⟩ ⟨PC_blind, hrec, fun U hU hW => PC_at (av := .ref b :: as) hSF hS hRH hHz hU hW⟩ rfl (by simp) (hl.1) (by subst hst; simp [List.map_reverse, vc]) (lv_room (by rw [cat_sum hSF.1]; exact hcat)) hd (by rw [hR]; exact hfit)) hS (fun q _ h => h) (fun q h => h) (fun r9 u t H1 locs1 ht hvm hw9 hB hz1 hk1 hS1 => ?_)
  cases hw9
  rw [ht] at hB
  refine W.sz (fun hsz3 => ?_)
  exact kk _ h1 z hz hZ H1 locs1 la (by have := hB.2.2; omega) hB.1 hS1 hl
theorem J_callVv (ok : JOK E l G k mc ms r h') {k2 : Cd} {idx : Nat} {b : Nat} {ci N : Nat} {T : u_T} {as : List Value} {stk : List Value} {F : Option (Unit × AHeap)} {f : Unit → AHeap → Option β} (hd : decode k.2.1 pc = .ok (.invokevirtual idx, 3)) {pc' : Nat} (he : pc + 3 = pc') (hw : Cw k k2 as.length) (hlink : Cond.methodLink k.1.cls idx k2.1 ∈ gw) (hinst : Cond.instanceMethod k2.1 ∈ gw) (hsel : Cond.selects k2.1.cls k2.1 k2.1 ∈ gw) (hcl : vwCl[ci]? = some (k2.1.cls, T, N)) (hfit : kc ≤ mc ∧ ks ≤ ms) (hcat : (st.map fun v => v.category).sum ≤ 8) (hst : stk = as.reverse ++ .ref b :: st) (hC : ∀ x h1, F = some (x, h1) → CT l G k2 0 0 (.ref b :: as) h (none) h1) (kk : ∀ (x : Unit) (h1 : AHeap), J E k (f x h1) Z pc' ls (st) h1 kc ks) : J E k ((chk h b ci).bind fun _ => bnd2 F f) Z pc ls stk h kc ks := by
  subst he
  obtain ⟨p, l0, e, R, s, m, args, below, meth, c, G0, r0, h0, mc0, ms0⟩ := E
  obtain ⟨⟨rfl, rfl, rfl, rfl, rfl, rfl⟩, hR, hx, hb, hml, hr, hown, hts, hlk, hnm, hSF, hge⟩ := ok
  intro z hz hZ H locs la hsz hRH hS hl
  obtain ⟨u0, hu0, hz⟩ := Option.bind_eq_some_iff.mp hz
  obtain ⟨fs0, hfs0⟩ := chk_spec hu0
  obtain ⟨⟨x, h1⟩, hF, hz⟩ := Option.bind_eq_some_iff.mp hz
  have hM := hC x h1 hF
  refine W.sz (fun hsz2 => ?_)
  have hge2 := RH.ge (Nat.le_trans hge hS.1) hRH
  have hHz : H.size = gB G0 + h.length := by omega
  have hrec : ∃ cellB : Cell, H[gAd G0 b]? = some cellB ∧ cellB.vm.isStatics = false ∧ s.vm.findClass k2.1.cls = some cellB.cls := by
    rw [gAd_lt (ltFB hRH.1 hfs0)]
    exact va_recv hSF.2.1 hRH.2 hcl (wsO_get hfs0)
  refine va_callv (va_runV (As := as.map (vc G0)) (rest := st.map (vc G0)) (C := k2.1.cls) ⟨hx, hb, hml, hown, hts⟩ hM ⟨callB_of as.length hts (cdW_good hw.1) rfl rfl rfl (hts _ hw.2.1) (hts _ hlink) hw.2.2.1 (by rw [hR]; exact hw.2.2.2), hts _ hinst, hts _ hsel⟩ ⟨PC_blind, hrec, fun U hU hW => PC_at (av := .ref b :: as) hSF hS hRH hHz hU hW⟩ rfl (by simp) (hl.1) (by subst hst; simp [List.map_reverse, vc]) (lv_room (by rw [cat_sum hSF.1]; exact hcat)) hd (by rw [hR]; exact hfit)) hS (fun q _ h => h) (fun q h => h) (fun u t H1 locs1 ht hvm hw9 hB hz1 hk1 hS1 => ?_)
  rw [ht] at hB
  refine W.sz (fun hsz3 => ?_)
  exact kk x h1 z hz hZ H1 locs1 la (by have := hB.2.2; omega) hB.1 hS1 hl
theorem J_callVl (ok : JOK E l G k mc ms r h') {k2 : Cd} {idx : Nat} {b : Nat} {ci N : Nat} {T : u_T} {as : List Value} {stk : List Value} {F : Option (Int64 × AHeap)} {f : Int64 → AHeap → Option β} (hd : decode k.2.1 pc = .ok (.invokevirtual idx, 3)) {pc' : Nat} (he : pc + 3 = pc') (hw : Cw k k2 as.length) (hlink : Cond.methodLink k.1.cls idx k2.1 ∈ gw) (hinst : Cond.instanceMethod k2.1 ∈ gw) (hsel : Cond.selects k2.1.cls k2.1 k2.1 ∈ gw) (hcl : vwCl[ci]? = some (k2.1.cls, T, N)) (hfit : kc ≤ mc ∧ ks ≤ ms) (hcat : (st.map fun v => v.category).sum ≤ 8) (hst : stk = as.reverse ++ .ref b :: st) (hC : ∀ x h1, F = some (x, h1) → CT l G k2 0 0 (.ref b :: as) h (some (.long x)) h1) (kk : ∀ (x : Int64) (h1 : AHeap), J E k (f x h1) Z pc' ls (.long x :: st) h1 kc ks) : J E k ((chk h b ci).bind fun _ => bnd2 F f) Z pc ls stk h kc ks := by
  subst he
  obtain ⟨p, l0, e, R, s, m, args, below, meth, c, G0, r0, h0, mc0, ms0⟩ := E
  obtain ⟨⟨rfl, rfl, rfl, rfl, rfl, rfl⟩, hR, hx, hb, hml, hr, hown, hts, hlk, hnm, hSF, hge⟩ := ok
  intro z hz hZ H locs la hsz hRH hS hl
  obtain ⟨u0, hu0, hz⟩ := Option.bind_eq_some_iff.mp hz
  obtain ⟨fs0, hfs0⟩ := chk_spec hu0
  obtain ⟨⟨x, h1⟩, hF, hz⟩ := Option.bind_eq_some_iff.mp hz
  have hM := hC x h1 hF
  refine W.sz (fun hsz2 => ?_)
  have hge2 := RH.ge (Nat.le_trans hge hS.1) hRH
  have hHz : H.size = gB G0 + h.length := by omega
  have hrec : ∃ cellB : Cell, H[gAd G0 b]? = some cellB ∧ cellB.vm.isStatics = false ∧ s.vm.findClass k2.1.cls = some cellB.cls := by
    rw [gAd_lt (ltFB hRH.1 hfs0)]
    exact va_recv hSF.2.1 hRH.2 hcl (wsO_get hfs0)
  refine va_calll (va_runV (As := as.map (vc G0)) (rest := st.map (vc G0)) (C := k2.1.cls) ⟨hx, hb, hml, hown, hts⟩ hM ⟨callB_of as.length hts (cdW_good hw.1) rfl rfl rfl (hts _ hw.2.1) (hts _ hlink) hw.2.2.1 (by rw [hR]; exact hw.2.2.2), hts _ hinst, hts _ hsel⟩ ⟨PC_blind, hrec, fun U hU hW => PC_at (av := .ref b :: as) hSF hS hRH hHz hU hW⟩ rfl (by simp) (hl.1) (by subst hst; simp [List.map_reverse, vc]) (lv_room (by rw [cat_sum hSF.1]; exact hcat)) hd (by rw [hR]; exact hfit)) hS (fun q _ h => h) (fun q h => h) (fun r9 u t H1 locs1 ht hvm hw9 hB hz1 hk1 hS1 => ?_)
  cases hw9
  rw [ht] at hB
  refine W.sz (fun hsz3 => ?_)
  exact kk _ h1 z hz hZ H1 locs1 la (by have := hB.2.2; omega) hB.1 hS1 hl
theorem J_callVf (ok : JOK E l G k mc ms r h') {k2 : Cd} {idx : Nat} {b : Nat} {ci N : Nat} {T : u_T} {as : List Value} {stk : List Value} {F : Option (UInt32 × AHeap)} {f : UInt32 → AHeap → Option β} (hd : decode k.2.1 pc = .ok (.invokevirtual idx, 3)) {pc' : Nat} (he : pc + 3 = pc') (hw : Cw k k2 as.length) (hlink : Cond.methodLink k.1.cls idx k2.1 ∈ gw) (hinst : Cond.instanceMethod k2.1 ∈ gw) (hsel : Cond.selects k2.1.cls k2.1 k2.1 ∈ gw) (hcl : vwCl[ci]? = some (k2.1.cls, T, N)) (hfit : kc ≤ mc ∧ ks ≤ ms) (hcat : (st.map fun v => v.category).sum ≤ 8) (hst : stk = as.reverse ++ .ref b :: st) (hC : ∀ x h1, F = some (x, h1) → CT l G k2 0 0 (.ref b :: as) h (some (.float x)) h1) (kk : ∀ (x : UInt32) (h1 : AHeap), J E k (f x h1) Z pc' ls (.float x :: st) h1 kc ks) : J E k ((chk h b ci).bind fun _ => bnd2 F f) Z pc ls stk h kc ks := by
  subst he
  obtain ⟨p, l0, e, R, s, m, args, below, meth, c, G0, r0, h0, mc0, ms0⟩ := E
  obtain ⟨⟨rfl, rfl, rfl, rfl, rfl, rfl⟩, hR, hx, hb, hml, hr, hown, hts, hlk, hnm, hSF, hge⟩ := ok
  intro z hz hZ H locs la hsz hRH hS hl
  obtain ⟨u0, hu0, hz⟩ := Option.bind_eq_some_iff.mp hz
  obtain ⟨fs0, hfs0⟩ := chk_spec hu0
  obtain ⟨⟨x, h1⟩, hF, hz⟩ := Option.bind_eq_some_iff.mp hz
  have hM := hC x h1 hF
  refine W.sz (fun hsz2 => ?_)
  have hge2 := RH.ge (Nat.le_trans hge hS.1) hRH
  have hHz : H.size = gB G0 + h.length := by omega
  have hrec : ∃ cellB : Cell, H[gAd G0 b]? = some cellB ∧ cellB.vm.isStatics = false ∧ s.vm.findClass k2.1.cls = some cellB.cls := by
    rw [gAd_lt (ltFB hRH.1 hfs0)]
    exact va_recv hSF.2.1 hRH.2 hcl (wsO_get hfs0)
  refine va_callf (va_runV (As := as.map (vc G0)) (rest := st.map (vc G0)) (C := k2.1.cls) ⟨hx, hb, hml, hown, hts⟩ hM ⟨callB_of as.length hts (cdW_good hw.1) rfl rfl rfl (hts _ hw.2.1) (hts _ hlink) hw.2.2.1 (by rw [hR]; exact hw.2.2.2), hts _ hinst, hts _ hsel⟩ ⟨PC_blind, hrec, fun U hU hW => PC_at (av := .ref b :: as) hSF hS hRH hHz hU hW⟩ rfl (by simp) (hl.1) (by subst hst; simp [List.map_reverse, vc]) (lv_room (by rw [cat_sum hSF.1]; exact hcat)) hd (by rw [hR]; exact hfit)) hS (fun q _ h => h) (fun q h => h) (fun r9 u t H1 locs1 ht hvm hw9 hB hz1 hk1 hS1 => ?_)
  cases hw9
  rw [ht] at hB
  refine W.sz (fun hsz3 => ?_)
  exact kk _ h1 z hz hZ H1 locs1 la (by have := hB.2.2; omega) hB.1 hS1 hl
theorem J_callSi (ok : JOK E l G k mc ms r h') {k2 : Cd} {idx : Nat} {as : List Value} {stk : List Value} {F : Option (Int32 × AHeap)} {f : Int32 → AHeap → Option β} (hd : decode k.2.1 pc = .ok (.invokestatic idx, 3)) {pc' : Nat} (he : pc + 3 = pc') (hw : Cw k k2 as.length) (hlink : Cond.methodLink k.1.cls idx k2.1 ∈ gw) (hstat : Cond.static k2.1 ∈ gw) (hfit : kc ≤ mc ∧ ks ≤ ms) (hcat : (st.map fun v => v.category).sum ≤ 8) (hst : stk = as.reverse ++ st) (hC : ∀ x h1, F = some (x, h1) → CT l G k2 0 0 (as) h (some (.int x)) h1) (kk : ∀ (x : Int32) (h1 : AHeap), J E k (f x h1) Z pc' ls (.int x :: st) h1 kc ks) : J E k (bnd2 F f) Z pc ls stk h kc ks := by
  subst he
  obtain ⟨p, l0, e, R, s, m, args, below, meth, c, G0, r0, h0, mc0, ms0⟩ := E
  obtain ⟨⟨rfl, rfl, rfl, rfl, rfl, rfl⟩, hR, hx, hb, hml, hr, hown, hts, hlk, hnm, hSF, hge⟩ := ok
  intro z hz hZ H locs la hsz hRH hS hl
  obtain ⟨⟨x, h1⟩, hF, hz⟩ := Option.bind_eq_some_iff.mp hz
  have hM := hC x h1 hF
  refine W.sz (fun hsz2 => ?_)
  have hge2 := RH.ge (Nat.le_trans hge hS.1) hRH
  have hHz : H.size = gB G0 + h.length := by omega
  refine va_calli (va_runS (As := as.map (vc G0)) (rest := st.map (vc G0)) ⟨hx, hb, hml, hown, hts⟩ hM ⟨callB_of as.length hts (cdW_good hw.1) rfl rfl rfl (hts _ hw.2.1) (hts _ hlink) hw.2.2.1 (by rw [hR]; exact hw.2.2.2), hts _ hstat⟩ ⟨PC_blind, fun U hU hW => PC_at (av := as) hSF hS hRH hHz hU hW⟩ rfl (by simp) (hl.1) (by subst hst; simp [List.map_reverse, vc]) (lv_room (by rw [cat_sum hSF.1]; exact hcat)) hd (by rw [hR]; exact hfit)) hS (fun q _ h => h) (fun q h => h) (fun r9 u t H1 locs1 ht hvm hw9 hB hz1 hk1 hS1 => ?_)
  cases hw9
  rw [ht] at hB
  refine W.sz (fun hsz3 => ?_)
  exact kk _ h1 z hz hZ H1 locs1 la (by have := hB.2.2; omega) hB.1 hS1 hl
theorem J_callSv (ok : JOK E l G k mc ms r h') {k2 : Cd} {idx : Nat} {as : List Value} {stk : List Value} {F : Option (Unit × AHeap)} {f : Unit → AHeap → Option β} (hd : decode k.2.1 pc = .ok (.invokestatic idx, 3)) {pc' : Nat} (he : pc + 3 = pc') (hw : Cw k k2 as.length) (hlink : Cond.methodLink k.1.cls idx k2.1 ∈ gw) (hstat : Cond.static k2.1 ∈ gw) (hfit : kc ≤ mc ∧ ks ≤ ms) (hcat : (st.map fun v => v.category).sum ≤ 8) (hst : stk = as.reverse ++ st) (hC : ∀ x h1, F = some (x, h1) → CT l G k2 0 0 (as) h (none) h1) (kk : ∀ (x : Unit) (h1 : AHeap), J E k (f x h1) Z pc' ls (st) h1 kc ks) : J E k (bnd2 F f) Z pc ls stk h kc ks := by
  subst he
  obtain ⟨p, l0, e, R, s, m, args, below, meth, c, G0, r0, h0, mc0, ms0⟩ := E
  obtain ⟨⟨rfl, rfl, rfl, rfl, rfl, rfl⟩, hR, hx, hb, hml, hr, hown, hts, hlk, hnm, hSF, hge⟩ := ok
  intro z hz hZ H locs la hsz hRH hS hl
  obtain ⟨⟨x, h1⟩, hF, hz⟩ := Option.bind_eq_some_iff.mp hz
  have hM := hC x h1 hF
  refine W.sz (fun hsz2 => ?_)
  have hge2 := RH.ge (Nat.le_trans hge hS.1) hRH
  have hHz : H.size = gB G0 + h.length := by omega
  refine va_callv (va_runS (As := as.map (vc G0)) (rest := st.map (vc G0)) ⟨hx, hb, hml, hown, hts⟩ hM ⟨callB_of as.length hts (cdW_good hw.1) rfl rfl rfl (hts _ hw.2.1) (hts _ hlink) hw.2.2.1 (by rw [hR]; exact hw.2.2.2), hts _ hstat⟩ ⟨PC_blind, fun U hU hW => PC_at (av := as) hSF hS hRH hHz hU hW⟩ rfl (by simp) (hl.1) (by subst hst; simp [List.map_reverse, vc]) (lv_room (by rw [cat_sum hSF.1]; exact hcat)) hd (by rw [hR]; exact hfit)) hS (fun q _ h => h) (fun q h => h) (fun u t H1 locs1 ht hvm hw9 hB hz1 hk1 hS1 => ?_)
  rw [ht] at hB
  refine W.sz (fun hsz3 => ?_)
  exact kk x h1 z hz hZ H1 locs1 la (by have := hB.2.2; omega) hB.1 hS1 hl
theorem J_callSf (ok : JOK E l G k mc ms r h') {k2 : Cd} {idx : Nat} {as : List Value} {stk : List Value} {F : Option (UInt32 × AHeap)} {f : UInt32 → AHeap → Option β} (hd : decode k.2.1 pc = .ok (.invokestatic idx, 3)) {pc' : Nat} (he : pc + 3 = pc') (hw : Cw k k2 as.length) (hlink : Cond.methodLink k.1.cls idx k2.1 ∈ gw) (hstat : Cond.static k2.1 ∈ gw) (hfit : kc ≤ mc ∧ ks ≤ ms) (hcat : (st.map fun v => v.category).sum ≤ 8) (hst : stk = as.reverse ++ st) (hC : ∀ x h1, F = some (x, h1) → CT l G k2 0 0 (as) h (some (.float x)) h1) (kk : ∀ (x : UInt32) (h1 : AHeap), J E k (f x h1) Z pc' ls (.float x :: st) h1 kc ks) : J E k (bnd2 F f) Z pc ls stk h kc ks := by
  subst he
  obtain ⟨p, l0, e, R, s, m, args, below, meth, c, G0, r0, h0, mc0, ms0⟩ := E
  obtain ⟨⟨rfl, rfl, rfl, rfl, rfl, rfl⟩, hR, hx, hb, hml, hr, hown, hts, hlk, hnm, hSF, hge⟩ := ok
  intro z hz hZ H locs la hsz hRH hS hl
  obtain ⟨⟨x, h1⟩, hF, hz⟩ := Option.bind_eq_some_iff.mp hz
  have hM := hC x h1 hF
  refine W.sz (fun hsz2 => ?_)
  have hge2 := RH.ge (Nat.le_trans hge hS.1) hRH
  have hHz : H.size = gB G0 + h.length := by omega
  refine va_callf (va_runS (As := as.map (vc G0)) (rest := st.map (vc G0)) ⟨hx, hb, hml, hown, hts⟩ hM ⟨callB_of as.length hts (cdW_good hw.1) rfl rfl rfl (hts _ hw.2.1) (hts _ hlink) hw.2.2.1 (by rw [hR]; exact hw.2.2.2), hts _ hstat⟩ ⟨PC_blind, fun U hU hW => PC_at (av := as) hSF hS hRH hHz hU hW⟩ rfl (by simp) (hl.1) (by subst hst; simp [List.map_reverse, vc]) (lv_room (by rw [cat_sum hSF.1]; exact hcat)) hd (by rw [hR]; exact hfit)) hS (fun q _ h => h) (fun q h => h) (fun r9 u t H1 locs1 ht hvm hw9 hB hz1 hk1 hS1 => ?_)
  cases hw9
  rw [ht] at hB
  refine W.sz (fun hsz3 => ?_)
  exact kk _ h1 z hz hZ H1 locs1 la (by have := hB.2.2; omega) hB.1 hS1 hl
theorem J_callSl (ok : JOK E l G k mc ms r h') {k2 : Cd} {idx : Nat} {as : List Value} {stk : List Value} {F : Option (Int64 × AHeap)} {f : Int64 → AHeap → Option β} (hd : decode k.2.1 pc = .ok (.invokestatic idx, 3)) {pc' : Nat} (he : pc + 3 = pc') (hw : Cw k k2 as.length) (hlink : Cond.methodLink k.1.cls idx k2.1 ∈ gw) (hstat : Cond.static k2.1 ∈ gw) (hfit : kc ≤ mc ∧ ks ≤ ms) (hcat : (st.map fun v => v.category).sum ≤ 8) (hst : stk = as.reverse ++ st) (hC : ∀ x h1, F = some (x, h1) → CT l G k2 0 0 (as) h (some (.long x)) h1) (kk : ∀ (x : Int64) (h1 : AHeap), J E k (f x h1) Z pc' ls (.long x :: st) h1 kc ks) : J E k (bnd2 F f) Z pc ls stk h kc ks := by
  subst he
  obtain ⟨p, l0, e, R, s, m, args, below, meth, c, G0, r0, h0, mc0, ms0⟩ := E
  obtain ⟨⟨rfl, rfl, rfl, rfl, rfl, rfl⟩, hR, hx, hb, hml, hr, hown, hts, hlk, hnm, hSF, hge⟩ := ok
  intro z hz hZ H locs la hsz hRH hS hl
  obtain ⟨⟨x, h1⟩, hF, hz⟩ := Option.bind_eq_some_iff.mp hz
  have hM := hC x h1 hF
  refine W.sz (fun hsz2 => ?_)
  have hge2 := RH.ge (Nat.le_trans hge hS.1) hRH
  have hHz : H.size = gB G0 + h.length := by omega
  refine va_calll (va_runS (As := as.map (vc G0)) (rest := st.map (vc G0)) ⟨hx, hb, hml, hown, hts⟩ hM ⟨callB_of as.length hts (cdW_good hw.1) rfl rfl rfl (hts _ hw.2.1) (hts _ hlink) hw.2.2.1 (by rw [hR]; exact hw.2.2.2), hts _ hstat⟩ ⟨PC_blind, fun U hU hW => PC_at (av := as) hSF hS hRH hHz hU hW⟩ rfl (by simp) (hl.1) (by subst hst; simp [List.map_reverse, vc]) (lv_room (by rw [cat_sum hSF.1]; exact hcat)) hd (by rw [hR]; exact hfit)) hS (fun q _ h => h) (fun q h => h) (fun r9 u t H1 locs1 ht hvm hw9 hB hz1 hk1 hS1 => ?_)
  cases hw9
  rw [ht] at hB
  refine W.sz (fun hsz3 => ?_)
  exact kk _ h1 z hz hZ H1 locs1 la (by have := hB.2.2; omega) hB.1 hS1 hl
theorem J_callSNi (ok : JOK E l G k mc ms r h') {k2 : Cd} {idx : Nat} {as : List Value} {stk : List Value} {F : Option (Int32 × AHeap)} {f : Int32 → AHeap → Option β} (hd : decode k.2.1 pc = .ok (.invokestatic idx, 3)) {pc' : Nat} (he : pc + 3 = pc') (hw : Cw k k2 as.length) {host : String} (hlink : Cond.methodLinkNest k.1.cls idx k2.1 host ∈ nestW) (hstat : Cond.static k2.1 ∈ gw) (hfit : kc ≤ mc ∧ ks ≤ ms) (hcat : (st.map fun v => v.category).sum ≤ 8) (hst : stk = as.reverse ++ st) (hC : ∀ x h1, F = some (x, h1) → CT l G k2 0 0 (as) h (some (.int x)) h1) (kk : ∀ (x : Int32) (h1 : AHeap), J E k (f x h1) Z pc' ls (.int x :: st) h1 kc ks) : J E k (bnd2 F f) Z pc ls stk h kc ks := by
  subst he
  obtain ⟨p, l0, e, R, s, m, args, below, meth, c, G0, r0, h0, mc0, ms0⟩ := E
  obtain ⟨⟨rfl, rfl, rfl, rfl, rfl, rfl⟩, hR, hx, hb, hml, hr, hown, hts, hlk, hnm, hSF, hge⟩ := ok
  intro z hz hZ H locs la hsz hRH hS hl
  obtain ⟨⟨x, h1⟩, hF, hz⟩ := Option.bind_eq_some_iff.mp hz
  have hM := hC x h1 hF
  refine W.sz (fun hsz2 => ?_)
  have hge2 := RH.ge (Nat.le_trans hge hS.1) hRH
  have hHz : H.size = gB G0 + h.length := by omega
  refine va_calli (va_runSN (As := as.map (vc G0)) (rest := st.map (vc G0)) (host := host) ⟨hx, hb, hml, hown, hts⟩ hM ⟨va_cnB as.length hts (cdW_good hw.1) rfl rfl rfl (hSF.2.2.2.2.2.2.2.1 _ hlink) (hts _ hw.2.1) hw.2.2.1 (by rw [hR]; exact hw.2.2.2), hts _ hstat, trivial⟩ ⟨PC_blind, fun U hU hW => PC_at (av := as) hSF hS hRH hHz hU hW⟩ rfl (by simp) (hl.1) (by subst hst; simp [List.map_reverse, vc]) (lv_room (by rw [cat_sum hSF.1]; exact hcat)) hd (by rw [hR]; exact hfit)) hS (fun q _ h => h) (fun q h => h) (fun r9 u t H1 locs1 ht hvm hw9 hB hz1 hk1 hS1 => ?_)
  cases hw9
  rw [ht] at hB
  refine W.sz (fun hsz3 => ?_)
  exact kk _ h1 z hz hZ H1 locs1 la (by have := hB.2.2; omega) hB.1 hS1 hl
theorem J_callSNf (ok : JOK E l G k mc ms r h') {k2 : Cd} {idx : Nat} {as : List Value} {stk : List Value} {F : Option (UInt32 × AHeap)} {f : UInt32 → AHeap → Option β} (hd : decode k.2.1 pc = .ok (.invokestatic idx, 3)) {pc' : Nat} (he : pc + 3 = pc') (hw : Cw k k2 as.length) {host : String} (hlink : Cond.methodLinkNest k.1.cls idx k2.1 host ∈ nestW) (hstat : Cond.static k2.1 ∈ gw) (hfit : kc ≤ mc ∧ ks ≤ ms) (hcat : (st.map fun v => v.category).sum ≤ 8) (hst : stk = as.reverse ++ st) (hC : ∀ x h1, F = some (x, h1) → CT l G k2 0 0 (as) h (some (.float x)) h1) (kk : ∀ (x : UInt32) (h1 : AHeap), J E k (f x h1) Z pc' ls (.float x :: st) h1 kc ks) : J E k (bnd2 F f) Z pc ls stk h kc ks := by
  subst he
  obtain ⟨p, l0, e, R, s, m, args, below, meth, c, G0, r0, h0, mc0, ms0⟩ := E
  obtain ⟨⟨rfl, rfl, rfl, rfl, rfl, rfl⟩, hR, hx, hb, hml, hr, hown, hts, hlk, hnm, hSF, hge⟩ := ok
  intro z hz hZ H locs la hsz hRH hS hl
  obtain ⟨⟨x, h1⟩, hF, hz⟩ := Option.bind_eq_some_iff.mp hz
  have hM := hC x h1 hF
  refine W.sz (fun hsz2 => ?_)
  have hge2 := RH.ge (Nat.le_trans hge hS.1) hRH
  have hHz : H.size = gB G0 + h.length := by omega
  refine va_callf (va_runSN (As := as.map (vc G0)) (rest := st.map (vc G0)) (host := host) ⟨hx, hb, hml, hown, hts⟩ hM ⟨va_cnB as.length hts (cdW_good hw.1) rfl rfl rfl (hSF.2.2.2.2.2.2.2.1 _ hlink) (hts _ hw.2.1) hw.2.2.1 (by rw [hR]; exact hw.2.2.2), hts _ hstat, trivial⟩ ⟨PC_blind, fun U hU hW => PC_at (av := as) hSF hS hRH hHz hU hW⟩ rfl (by simp) (hl.1) (by subst hst; simp [List.map_reverse, vc]) (lv_room (by rw [cat_sum hSF.1]; exact hcat)) hd (by rw [hR]; exact hfit)) hS (fun q _ h => h) (fun q h => h) (fun r9 u t H1 locs1 ht hvm hw9 hB hz1 hk1 hS1 => ?_)
  cases hw9
  rw [ht] at hB
  refine W.sz (fun hsz3 => ?_)
  exact kk _ h1 z hz hZ H1 locs1 la (by have := hB.2.2; omega) hB.1 hS1 hl
theorem J_callIv (ok : JOK E l G k mc ms r h') {k2 : Cd} {idx mc2 ms2 : Nat} {b : Nat} {as : List Value} {stk : List Value} {F : Option (Unit × AHeap)} {f : Unit → AHeap → Option β} (hd : decode k.2.1 pc = .ok (.invokespecial idx, 3)) {pc' : Nat} (he : pc + 3 = pc') (hw : Cw k k2 as.length) (hlink : Cond.methodLink k.1.cls idx k2.1 ∈ gw) (hinst : Cond.instanceMethod k2.1 ∈ gw) (hin : k2.1.name = "<init>") (hret : k2.2.2.2.1 = none) (hfit : kc + mc2 ≤ mc ∧ ks + ms2 ≤ ms) (hcat : (st.map fun v => v.category).sum ≤ 8) (hst : stk = as.reverse ++ .ref b :: st) (hC : ∀ x h1, F = some (x, h1) → CT l G k2 mc2 ms2 (.ref b :: as) h (none) h1) (kk : ∀ (x : Unit) (h1 : AHeap), J E k (f x h1) Z pc' ls (st) h1 (kc + mc2) (ks + ms2)) : J E k (bnd2 F f) Z pc ls stk h kc ks := by
  subst he
  obtain ⟨p, l0, e, R, s, m, args, below, meth, c, G0, r0, h0, mc0, ms0⟩ := E
  obtain ⟨⟨rfl, rfl, rfl, rfl, rfl, rfl⟩, hR, hx, hb, hml, hr, hown, hts, hlk, hnm, hSF, hge⟩ := ok
  intro z hz hZ H locs la hsz hRH hS hl
  obtain ⟨⟨x, h1⟩, hF, hz⟩ := Option.bind_eq_some_iff.mp hz
  have hM := hC x h1 hF
  refine W.sz (fun hsz2 => ?_)
  have hge2 := RH.ge (Nat.le_trans hge hS.1) hRH
  have hHz : H.size = gB G0 + h.length := by omega
  refine va_callv (va_runI (As := as.map (vc G0)) (rest := st.map (vc G0)) ⟨hx, hb, hml, hown, hts⟩ hM ⟨callB_of as.length hts (cdW_good hw.1) (by rw [← hret]; rfl) rfl rfl (hts _ hw.2.1) (hts _ hlink) hw.2.2.1 (by rw [hR]; exact hw.2.2.2), hin, hts _ hinst⟩ ⟨PC_blind, fun U hU hW => PC_at (av := .ref b :: as) hSF hS hRH hHz hU hW⟩ rfl (by simp) (hl.1) (by subst hst; simp [List.map_reverse, vc]) (lv_room (by rw [cat_sum hSF.1]; exact hcat)) hd (by rw [hR]; exact hfit)) hS (fun q _ h => h) (fun q h => h) (fun u t H1 locs1 ht hvm hw9 hB hz1 hk1 hS1 => ?_)
  rw [ht] at hB
  refine W.sz (fun hsz3 => ?_)
  exact kk x h1 z hz hZ H1 locs1 la (by have := hB.2.2; omega) hB.1 hS1 hl
theorem J_callINv (ok : JOK E l G k mc ms r h') {k2 : Cd} {idx mc2 ms2 : Nat} {b : Nat} {as : List Value} {stk : List Value} {F : Option (Unit × AHeap)} {f : Unit → AHeap → Option β} (hd : decode k.2.1 pc = .ok (.invokespecial idx, 3)) {pc' : Nat} (he : pc + 3 = pc') (hw : Cw k k2 as.length) {host : String} (hlink : Cond.methodLinkNest k.1.cls idx k2.1 host ∈ nestW) (hinst : Cond.instanceMethod k2.1 ∈ gw) (hin : k2.1.name = "<init>") (hret : k2.2.2.2.1 = none) (hfit : kc + mc2 ≤ mc ∧ ks + ms2 ≤ ms) (hcat : (st.map fun v => v.category).sum ≤ 8) (hst : stk = as.reverse ++ .ref b :: st) (hC : ∀ x h1, F = some (x, h1) → CT l G k2 mc2 ms2 (.ref b :: as) h (none) h1) (kk : ∀ (x : Unit) (h1 : AHeap), J E k (f x h1) Z pc' ls (st) h1 (kc + mc2) (ks + ms2)) : J E k (bnd2 F f) Z pc ls stk h kc ks := by
  subst he
  obtain ⟨p, l0, e, R, s, m, args, below, meth, c, G0, r0, h0, mc0, ms0⟩ := E
  obtain ⟨⟨rfl, rfl, rfl, rfl, rfl, rfl⟩, hR, hx, hb, hml, hr, hown, hts, hlk, hnm, hSF, hge⟩ := ok
  intro z hz hZ H locs la hsz hRH hS hl
  obtain ⟨⟨x, h1⟩, hF, hz⟩ := Option.bind_eq_some_iff.mp hz
  have hM := hC x h1 hF
  refine W.sz (fun hsz2 => ?_)
  have hge2 := RH.ge (Nat.le_trans hge hS.1) hRH
  have hHz : H.size = gB G0 + h.length := by omega
  refine va_callv (va_runIN (As := as.map (vc G0)) (rest := st.map (vc G0)) (host := host) ⟨hx, hb, hml, hown, hts⟩ hM ⟨va_cnB as.length hts (cdW_good hw.1) (by rw [← hret]; rfl) rfl rfl (hSF.2.2.2.2.2.2.2.1 _ hlink) (hts _ hw.2.1) hw.2.2.1 (by rw [hR]; exact hw.2.2.2), hin, hts _ hinst⟩ ⟨PC_blind, fun U hU hW => PC_at (av := .ref b :: as) hSF hS hRH hHz hU hW⟩ rfl (by simp) (hl.1) (by subst hst; simp [List.map_reverse, vc]) (lv_room (by rw [cat_sum hSF.1]; exact hcat)) hd (by rw [hR]; exact hfit)) hS (fun q _ h => h) (fun q h => h) (fun u t H1 locs1 ht hvm hw9 hB hz1 hk1 hS1 => ?_)
  rw [ht] at hB
  refine W.sz (fun hsz3 => ?_)
  exact kk x h1 z hz hZ H1 locs1 la (by have := hB.2.2; omega) hB.1 hS1 hl
end Calls
