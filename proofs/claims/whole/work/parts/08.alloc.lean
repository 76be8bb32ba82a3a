/-! new cells, statics, texts, switches, loops -/
def alc (h : AHeap) (c : ACell) : Option (Nat × AHeap) := if h.length < FB then some (h.length, h ++ [c]) else none
theorem alc_spec {h h1 : AHeap} {c : ACell} {a : Nat} (hv : alc h c = some (a, h1)) : h.length < FB ∧ a = h.length ∧ h1 = h ++ [c] := by
  unfold alc at hv
  split at hv
  · cases hv; exact ⟨‹_›, rfl, rfl⟩
  · cases hv
/-- the address of a new cell -/
theorem new_at {G : GX} {h : AHeap} {H1 : Heap} {q : Nat} {e : va_E} {sz : Nat} (hP : va_P G.1 vwCl (wsO G h ++ [(q, e)]) H1) (hD : va_D (gA G) (wsO G h ++ [(q, e)])) (hz : H1.size ≤ sz) (hsz : sz = gB G + h.length + 1) : q = gB G + h.length := by
  have hlen : (wsO G h).length = h.length := by simp [wsO]
  have hq : (wsO G h ++ [(q, e)])[h.length]? = some (q, e) := by
    rw [List.getElem?_append_right (by omega)]
    simp [hlen]
  have h1 : q < H1.size := (hP _ _ hq).lt
  have h2 : gB G ≤ q := hD.2 _ _ hq
  by_cases hc : q < gB G + h.length
  · exfalso
    have hi : q - gB G < h.length := by omega
    have hg : (wsO G h ++ [(q, e)])[q - gB G]? = some (gB G + (q - gB G), cE G h[q - gB G]) := by
      rw [List.getElem?_append_left (by omega)]
      exact wsO_get (List.getElem?_eq_getElem hi)
    have := hD.1 _ _ _ _ hg hq (by simp only; omega)
    omega
  · omega
theorem RH.push {G : GX} {h : AHeap} {H1 : Heap} {c : ACell} (hl : h.length < FB) (hP : va_P G.1 vwCl (wsO G h ++ [(gB G + h.length, cE G c)]) H1) : RH G (h ++ [c]) H1 := by
  refine ⟨by simp; omega, ?_⟩
  rw [← wsO_push]
  exact hP
section Rules4
variable {E : JE} {l : Launch} {G : GX} {k : Cd} {mc ms : Nat} {r : Option Value} {h' : AHeap} {β : Type} {M : Option β} {Z : β → Prop} {pc : Nat} {ls : List (Option Value)} {st : List Value} {h : AHeap} {kc ks : Nat}

theorem J_new (ok : JOK E l G k mc ms r h') {ci idx N : Nat} {C : String} {T : u_T} {fs : List Value} {f : Nat → AHeap → Option β} (ty : Nat → FieldType) (hd : decode k.2.1 pc = .ok (.new idx, 3)) {pc' : Nat} (he : pc + 3 = pc') (hcl : vwCl[ci]? = some (C, T, N)) (hin : ∀ w ∈ u_ws C T N, w ∈ gw) (hty : ∀ j, j < N → parseFieldDescriptor (T j).2.2.1 = some (ty j)) (hclk : Cond.classLink k.1.cls idx C ∈ gw) (hins : Cond.instantiable C N ∈ gw) (hini : Cond.initialized C ∈ gw) (hfs : ∀ j, j < N → defaultValue (ty j) = vp_V fs j) (hpl : ∀ v ∈ fs, v = .int 0 ∨ v = .null) (hc1 : kc + 1 ≤ mc) (hs1 : ks + N ≤ ms) (kk : ∀ (a : Nat) (h1 : AHeap), J E k (f a h1) Z pc' ls (.ref a :: st) h1 (kc + 1) (ks + N)) : J E k (bnd2 (alc h (.inl (ci, fs))) f) Z pc ls st h kc ks := by
  subst he
  obtain ⟨p, l0, e, R, s, m, args, below, meth, c, G0, r0, h0, mc0, ms0⟩ := E
  obtain ⟨⟨rfl, rfl, rfl, rfl, rfl, rfl⟩, hR, hx, hb, hml, hr, hown, hts, hlk, hnm, hSF, hge⟩ := ok
  intro z hz hZ H locs la hsz hRH hS hl
  obtain ⟨⟨a, h1⟩, hF, hz⟩ := Option.bind_eq_some_iff.mp hz
  obtain ⟨hfb, rfl, rfl⟩ := alc_spec hF
  have hfsv : fs.map (vc G0) = fs := by
    conv => rhs; rw [← List.map_id fs]
    apply List.map_congr_left
    intro v hv
    rcases hpl v hv with rfl | rfl <;> rfl
  refine va_new (D := G0.1) (cl := vwCl) (tys := tyL G0) (ws := wsO G0 h) (ci := ci) (fs := fs) (C := C) (T := T) (N := N) hx hb hts hin ty hty hown (hts _ hclk) (hts _ hins) (hts _ hini) hSF.2.1 hRH.2 wsO_D hS (fun q hq => Nat.le_trans hge hq) hcl hfs (by rw [hR]; exact hc1) (by rw [hR]; exact hs1) hd (fun q H1 hP1 hD1 hS1 => ?_)
  refine W.sz (fun hsz3 => ?_)
  have hq := new_at hP1 hD1 hsz3 (by omega)
  subst hq
  have hk := kk _ _ z hz hZ H1 locs la (by simp; omega) (RH.push (c := .inl (ci, fs)) hfb (by simpa [cE, hfsv] using hP1)) hS1 hl
  have e1 : vc G0 (.ref h.length) = .ref (gB G0 + h.length) := by rw [vc_ref, gAd_lt hfb]
  simpa [e1] using hk
theorem J_newa0 (ok : JOK E l G k mc ms r h') {n : Int32} {N : Nat} {f : Nat → AHeap → Option β} (hd : decode k.2.1 pc = .ok (.newarray .int, 2)) {pc' : Nat} (he : pc + 2 = pc') (harr : Cond.arrayClass .int ∈ gw) (hn : ¬ n < 0) (hN : n.toNatClampNeg = N) (hb9 : N * componentBytes .int ≤ 536870912) (hc1 : kc + 1 ≤ mc) (hs1 : ks + N ≤ ms) (kk : ∀ (a : Nat) (h1 : AHeap), J E k (f a h1) Z pc' ls (.ref a :: st) h1 (kc + 1) (ks + N)) : J E k (bnd2 (alc h (.inr (.inl (0, List.replicate N 0)))) f) Z pc ls (.int n :: st) h kc ks := by
  subst he
  obtain ⟨p, l0, e, R, s, m, args, below, meth, c, G0, r0, h0, mc0, ms0⟩ := E
  obtain ⟨⟨rfl, rfl, rfl, rfl, rfl, rfl⟩, hR, hx, hb, hml, hr, hown, hts, hlk, hnm, hSF, hge⟩ := ok
  intro z hz hZ H locs la hsz hRH hS hl
  obtain ⟨⟨a, h1⟩, hF, hz⟩ := Option.bind_eq_some_iff.mp hz
  obtain ⟨hfb, rfl, rfl⟩ := alc_spec hF
  refine va_newa (D := G0.1) (cl := vwCl) (tys := tyL G0) (ws := wsO G0 h) (atype := .int) (ty := .int) (a0 := (N, .inl (fun _ => 0))) hx hb (hts _ harr) rfl hSF.2.1 hRH.2 wsO_D hS (fun q hq => Nat.le_trans hge hq) (fun _ => rfl) hn hN hb9 (by rw [hR]; exact hc1) (by rw [hR]; exact hs1) hd (fun q cA H1 hK1 hP1 hD1 hS1 => ?_)
  refine W.sz (fun hsz3 => ?_)
  have hq := new_at hP1 hD1 hsz3 (by omega)
  subst hq
  have hca : cA = G0.2.1 0 := by
    have q1 : s.vm.findClass ("[" ++ (FieldType.int).toString) = some (G0.2.1 0) := (hSF.2.1.2 0 _ rfl).2
    have q2 : s.vm.findClass ("[" ++ (FieldType.int).toString) = some cA := (hK1.2 4 _ rfl).2
    rw [q1] at q2
    exact (Option.some.inj q2).symm
  subst hca
  have hfun : (fun j => (List.replicate N (0 : Int32)).getD j 0) = (fun _ => (0 : Int32)) := by
    funext j
    simp only [List.getD_eq_getElem?_getD, List.getElem?_replicate]
    split <;> rfl
  have hk := kk _ _ z hz hZ H1 locs la (by simp; omega) (RH.push (c := .inr (.inl (0, List.replicate N 0))) hfb (by simp only [cE, hfun, List.length_replicate]; exact hP1)) hS1 hl
  have e1 : vc G0 (.ref h.length) = .ref (gB G0 + h.length) := by rw [vc_ref, gAd_lt hfb]
  simpa [e1] using hk
theorem J_newa1 (ok : JOK E l G k mc ms r h') {n : Int32} {N : Nat} {f : Nat → AHeap → Option β} (hd : decode k.2.1 pc = .ok (.newarray .boolean, 2)) {pc' : Nat} (he : pc + 2 = pc') (harr : Cond.arrayClass .boolean ∈ gw) (hn : ¬ n < 0) (hN : n.toNatClampNeg = N) (hb9 : N * componentBytes .boolean ≤ 536870912) (hc1 : kc + 1 ≤ mc) (hs1 : ks + N ≤ ms) (kk : ∀ (a : Nat) (h1 : AHeap), J E k (f a h1) Z pc' ls (.ref a :: st) h1 (kc + 1) (ks + N)) : J E k (bnd2 (alc h (.inr (.inl (1, List.replicate N 0)))) f) Z pc ls (.int n :: st) h kc ks := by
  subst he
  obtain ⟨p, l0, e, R, s, m, args, below, meth, c, G0, r0, h0, mc0, ms0⟩ := E
  obtain ⟨⟨rfl, rfl, rfl, rfl, rfl, rfl⟩, hR, hx, hb, hml, hr, hown, hts, hlk, hnm, hSF, hge⟩ := ok
  intro z hz hZ H locs la hsz hRH hS hl
  obtain ⟨⟨a, h1⟩, hF, hz⟩ := Option.bind_eq_some_iff.mp hz
  obtain ⟨hfb, rfl, rfl⟩ := alc_spec hF
  refine va_newa (D := G0.1) (cl := vwCl) (tys := tyL G0) (ws := wsO G0 h) (atype := .boolean) (ty := .boolean) (a0 := (N, .inl (fun _ => 0))) hx hb (hts _ harr) rfl hSF.2.1 hRH.2 wsO_D hS (fun q hq => Nat.le_trans hge hq) (fun _ => rfl) hn hN hb9 (by rw [hR]; exact hc1) (by rw [hR]; exact hs1) hd (fun q cA H1 hK1 hP1 hD1 hS1 => ?_)
  refine W.sz (fun hsz3 => ?_)
  have hq := new_at hP1 hD1 hsz3 (by omega)
  subst hq
  have hca : cA = G0.2.1 1 := by
    have q1 : s.vm.findClass ("[" ++ (FieldType.boolean).toString) = some (G0.2.1 1) := (hSF.2.1.2 1 _ rfl).2
    have q2 : s.vm.findClass ("[" ++ (FieldType.boolean).toString) = some cA := (hK1.2 4 _ rfl).2
    rw [q1] at q2
    exact (Option.some.inj q2).symm
  subst hca
  have hfun : (fun j => (List.replicate N (0 : Int32)).getD j 0) = (fun _ => (0 : Int32)) := by
    funext j
    simp only [List.getD_eq_getElem?_getD, List.getElem?_replicate]
    split <;> rfl
  have hk := kk _ _ z hz hZ H1 locs la (by simp; omega) (RH.push (c := .inr (.inl (1, List.replicate N 0))) hfb (by simp only [cE, hfun, List.length_replicate]; exact hP1)) hS1 hl
  have e1 : vc G0 (.ref h.length) = .ref (gB G0 + h.length) := by rw [vc_ref, gAd_lt hfb]
  simpa [e1] using hk
theorem J_newa2 (ok : JOK E l G k mc ms r h') {n : Int32} {N : Nat} {f : Nat → AHeap → Option β} (hd : decode k.2.1 pc = .ok (.newarray .byte, 2)) {pc' : Nat} (he : pc + 2 = pc') (harr : Cond.arrayClass .byte ∈ gw) (hn : ¬ n < 0) (hN : n.toNatClampNeg = N) (hb9 : N * componentBytes .byte ≤ 536870912) (hc1 : kc + 1 ≤ mc) (hs1 : ks + N ≤ ms) (kk : ∀ (a : Nat) (h1 : AHeap), J E k (f a h1) Z pc' ls (.ref a :: st) h1 (kc + 1) (ks + N)) : J E k (bnd2 (alc h (.inr (.inl (2, List.replicate N 0)))) f) Z pc ls (.int n :: st) h kc ks := by
  subst he
  obtain ⟨p, l0, e, R, s, m, args, below, meth, c, G0, r0, h0, mc0, ms0⟩ := E
  obtain ⟨⟨rfl, rfl, rfl, rfl, rfl, rfl⟩, hR, hx, hb, hml, hr, hown, hts, hlk, hnm, hSF, hge⟩ := ok
  intro z hz hZ H locs la hsz hRH hS hl
  obtain ⟨⟨a, h1⟩, hF, hz⟩ := Option.bind_eq_some_iff.mp hz
  obtain ⟨hfb, rfl, rfl⟩ := alc_spec hF
  refine va_newa (D := G0.1) (cl := vwCl) (tys := tyL G0) (ws := wsO G0 h) (atype := .byte) (ty := .byte) (a0 := (N, .inl (fun _ => 0))) hx hb (hts _ harr) rfl hSF.2.1 hRH.2 wsO_D hS (fun q hq => Nat.le_trans hge hq) (fun _ => rfl) hn hN hb9 (by rw [hR]; exact hc1) (by rw [hR]; exact hs1) hd (fun q cA H1 hK1 hP1 hD1 hS1 => ?_)
  refine W.sz (fun hsz3 => ?_)
  have hq := new_at hP1 hD1 hsz3 (by omega)
  subst hq
  have hca : cA = G0.2.1 2 := by
    have q1 : s.vm.findClass ("[" ++ (FieldType.byte).toString) = some (G0.2.1 2) := (hSF.2.1.2 2 _ rfl).2
    have q2 : s.vm.findClass ("[" ++ (FieldType.byte).toString) = some cA := (hK1.2 4 _ rfl).2
    rw [q1] at q2
    exact (Option.some.inj q2).symm
  subst hca
  have hfun : (fun j => (List.replicate N (0 : Int32)).getD j 0) = (fun _ => (0 : Int32)) := by
    funext j
    simp only [List.getD_eq_getElem?_getD, List.getElem?_replicate]
    split <;> rfl
  have hk := kk _ _ z hz hZ H1 locs la (by simp; omega) (RH.push (c := .inr (.inl (2, List.replicate N 0))) hfb (by simp only [cE, hfun, List.length_replicate]; exact hP1)) hS1 hl
  have e1 : vc G0 (.ref h.length) = .ref (gB G0 + h.length) := by rw [vc_ref, gAd_lt hfb]
  simpa [e1] using hk
theorem J_anew (ok : JOK E l G k mc ms r h') {n : Int32} {N idx : Nat} {f : Nat → AHeap → Option β} (hd : decode k.2.1 pc = .ok (.anewarray idx, 3)) {pc' : Nat} (he : pc + 3 = pc') (hclk : Cond.classLink k.1.cls idx "SplitProgram$State" ∈ gw) (hn : ¬ n < 0) (hN : n.toNatClampNeg = N) (hb9 : N * 4 ≤ 536870912) (hc1 : kc + 1 ≤ mc) (hs1 : ks + N ≤ ms) (kk : ∀ (a : Nat) (h1 : AHeap), J E k (f a h1) Z pc' ls (.ref a :: st) h1 (kc + 1) (ks + N)) : J E k (bnd2 (alc h (.inr (.inr (List.replicate N none)))) f) Z pc ls (.int n :: st) h kc ks := by
  subst he
  obtain ⟨p, l0, e, R, s, m, args, below, meth, c, G0, r0, h0, mc0, ms0⟩ := E
  obtain ⟨⟨rfl, rfl, rfl, rfl, rfl, rfl⟩, hR, hx, hb, hml, hr, hown, hts, hlk, hnm, hSF, hge⟩ := ok
  intro z hz hZ H locs la hsz hRH hS hl
  obtain ⟨⟨a, h1⟩, hF, hz⟩ := Option.bind_eq_some_iff.mp hz
  obtain ⟨hfb, rfl, rfl⟩ := alc_spec hF
  refine va_newq (D := G0.1) (cl := vwCl) (tys := tyL G0) (ws := wsO G0 h) hx hb hown (hts _ hclk) hSF.2.2.2.2.2.2.2.2 hSF.2.1 hRH.2 wsO_D hS (fun q hq => Nat.le_trans hge hq) hn hN hb9 (by rw [hR]; exact hc1) (by rw [hR]; exact hs1) hd (fun q cA H1 hK1 hP1 hD1 hS1 => ?_)
  refine W.sz (fun hsz3 => ?_)
  have hq := new_at hP1 hD1 hsz3 (by omega)
  subst hq
  have hca : cA = G0.2.1 3 := by
    obtain ⟨kA, comp, -, -, -, q1⟩ := (hSF.2.1.2 3 _ rfl).2
    obtain ⟨kA2, comp2, -, -, -, q2⟩ := (hK1.2 4 _ rfl).2
    rw [q1] at q2
    exact (Option.some.inj q2).symm
  subst hca
  have hfun : (fun j => ((List.replicate N (none : Option Nat)).getD j none).map (gAd G0)) = (fun _ => none) := by
    funext j
    simp only [List.getD_eq_getElem?_getD, List.getElem?_replicate]
    split <;> rfl
  have hk := kk _ _ z hz hZ H1 locs la (by simp; omega) (RH.push (c := .inr (.inr (List.replicate N none))) hfb (by simp only [cE, hfun, List.length_replicate]; exact hP1)) hS1 hl
  have e1 : vc G0 (.ref h.length) = .ref (gB G0 + h.length) := by rw [vc_ref, gAd_lt hfb]
  simpa [e1] using hk
def astR (h : AHeap) (a : Nat) (i : Int32) (q : Nat) : Option AHeap := match h[a]?, h[q]? with
  | some (.inr (.inr rs)), some (.inl o) => if o.1 = 8 ∧ ¬ i < 0 ∧ i.toNatClampNeg < rs.length then some (h.set a (.inr (.inr (rs.set i.toNatClampNeg (some q))))) else none
  | _, _ => none
theorem astR_spec {h h1 : AHeap} {a q : Nat} {i : Int32} (hv : astR h a i q = some h1) : ∃ rs fs, h[a]? = some (.inr (.inr rs)) ∧ h[q]? = some (.inl (8, fs)) ∧ ¬ i < 0 ∧ i.toNatClampNeg < rs.length ∧ h1 = h.set a (.inr (.inr (rs.set i.toNatClampNeg (some q)))) := by
  unfold astR at hv
  split at hv
  · rename_i rs o ho hq
    split at hv
    · rename_i hc
      cases hv
      exact ⟨rs, o.2, ho, by rw [hq, ← hc.1], hc.2.1, hc.2.2, rfl⟩
    · cases hv
  · cases hv
theorem J_astR (ok : JOK E l G k mc ms r h') {a q : Nat} {i : Int32} {f : AHeap → Option β} (hd : decode k.2.1 pc = .ok (.aastore, 1)) {pc' : Nat} (he : pc + 1 = pc') (kk : ∀ h1, h1.length = h.length → J E k (f h1) Z pc' ls st h1 kc ks) : J E k ((astR h a i q).bind f) Z pc ls (.ref q :: .int i :: .ref a :: st) h kc ks := by
  subst he
  obtain ⟨p, l0, e, R, s, m, args, below, meth, c, G0, r0, h0, mc0, ms0⟩ := E
  obtain ⟨⟨rfl, rfl, rfl, rfl, rfl, rfl⟩, hR, hx, hb, hml, hr, hown, hts, hlk, hnm, hSF, hge⟩ := ok
  intro z hz hZ H locs la hsz hRH hS hl
  obtain ⟨h1, hx1, hz⟩ := Option.bind_eq_some_iff.mp hz
  obtain ⟨rs, fs, h2, h3, h4, h5, rfl⟩ := astR_spec hx1
  show W _ _ _ _ _ _ _ _ _ _ _ _ _ _ _ (F0 m pc la (.ref (gAd G0 q) :: .int i :: .ref (gAd G0 a) :: st.map (vc G0)))
  rw [gAd_lt (ltFB hRH.1 h2)]
  have hqa : gAd G0 q = gB G0 + q := gAd_lt (ltFB hRH.1 h3)
  rw [hqa]
  refine va_astq (D := G0.1) (cl := vwCl) (tys := tyL G0) (ws := wsO G0 h) (f := fun j => (rs.getD j none).map (gAd G0)) (r := (RX8, TX8, 3)) hx hb hSF.2.1 hRH.2 wsO_D hS a 3 q 8 (wsO_get h2) rfl (wsO_get h3) rfl (vp_in_of2 h4 h5) hd (fun H1 locs1 hP1 hD1 hS1 => ?_)
  refine kk _ (by simp) z hz hZ H1 locs1 la (by simpa using hsz) (RH.set (c := .inr (.inr (rs.set i.toNatClampNeg (some q)))) hRH ?_) hS1 hl
  have hfun : va_up (fun j => (rs.getD j none).map (gAd G0)) i.toNatClampNeg (some (gB G0 + q)) = (fun j => ((rs.set i.toNatClampNeg (some q)).getD j none).map (gAd G0)) := by
    funext j
    simp only [va_up, List.getD_eq_getElem?_getD, List.getElem?_set]
    by_cases hj : j = i.toNatClampNeg
    · subst hj; simp [h5, hqa]
    · have hj2 : ¬ i.toNatClampNeg = j := fun e => hj e.symm
      rw [if_neg hj, if_neg hj2]
  rw [hfun] at hP1
  simpa [cE] using hP1
theorem J_putFR (ok : JOK E l G k mc ms r h') {a ci kf idx N : Nat} {C : String} {T : u_T} {x : Nat} {f : AHeap → Option β} (ty : Nat → FieldType) (hd : decode k.2.1 pc = .ok (.putfield idx, 3)) {pc' : Nat} (he : pc + 3 = pc') (hcl : vwCl[ci]? = some (C, T, N)) (hkf : kf < N) (hin : ∀ w ∈ u_ws C T N, w ∈ gw) (hty : ∀ j, j < N → parseFieldDescriptor (T j).2.2.1 = some (ty j)) (hnm2 : ∀ a, a < N → ∀ b, b < N → a ≠ b → (T a).2.1 ≠ (T b).2.1) (hn : ∀ q : Nat, narrow (ty kf) (.ref q) = .ref q ∧ fits (ty kf) (.ref q) = true) (hfin : (T kf).2.2.2 = true) (hinit : k.1.name = "<init>") (hdecl : (T kf).1 = k.1.cls) (hlink : Cond.fieldLink k.1.cls idx (T kf).1 (T kf).2.1 (T kf).2.2.1 ∈ gw) (kk : ∀ h1, h1.length = h.length → J E k (f h1) Z pc' ls st h1 kc ks) : J E k ((pfV h a ci kf (.ref x)).bind f) Z pc ls (.ref x :: .ref a :: st) h kc ks := by
  subst he
  obtain ⟨p, l0, e, R, s, m, args, below, meth, c, G0, r0, h0, mc0, ms0⟩ := E
  obtain ⟨⟨rfl, rfl, rfl, rfl, rfl, rfl⟩, hR, hx, hb, hml, hr, hown, hts, hlk, hnm, hSF, hge⟩ := ok
  intro z hz hZ H locs la hsz hRH hS hl
  obtain ⟨h1, hx1, hz⟩ := Option.bind_eq_some_iff.mp hz
  obtain ⟨fs, h2, h3, rfl⟩ := pfV_spec hx1
  show W _ _ _ _ _ _ _ _ _ _ _ _ _ _ _ (F0 m pc la (.ref (gAd G0 x) :: .ref (gAd G0 a) :: st.map (vc G0)))
  rw [gAd_lt (i := a) (ltFB hRH.1 h2)]
  refine va_putF (D := G0.1) (cl := vwCl) (tys := tyL G0) (ws := wsO G0 h) (v := .ref (gAd G0 x)) (ty := ty kf) hx hb hts hin ty hty hnm2 hown hSF.2.1 hRH.2 wsO_D hS a (wsO_get h2) hcl kf hkf (hts _ hlink) (fun _ h => h) hfin (hnm.trans hinit) hdecl (hty kf hkf) (hn _).1 (hn _).2 (by simpa using h3) hd (fun H1 locs1 hP1 hD1 hS1 => ?_)
  refine kk _ (by simp) z hz hZ H1 locs1 la (by simpa using hsz) (RH.set (c := .inl (ci, fs.set kf (.ref x))) hRH ?_) hS1 hl
  simpa [cE, List.map_set, vc] using hP1
theorem J_putFI (ok : JOK E l G k mc ms r h') {a ci kf idx N : Nat} {C : String} {T : u_T} {x : Int32} {f : AHeap → Option β} (ty : Nat → FieldType) (hd : decode k.2.1 pc = .ok (.putfield idx, 3)) {pc' : Nat} (he : pc + 3 = pc') (hcl : vwCl[ci]? = some (C, T, N)) (hkf : kf < N) (hin : ∀ w ∈ u_ws C T N, w ∈ gw) (hty : ∀ j, j < N → parseFieldDescriptor (T j).2.2.1 = some (ty j)) (hnm2 : ∀ a, a < N → ∀ b, b < N → a ≠ b → (T a).2.1 ≠ (T b).2.1) (hn : ty kf = .int) (hfin : (T kf).2.2.2 = true) (hinit : k.1.name = "<init>") (hdecl : (T kf).1 = k.1.cls) (hlink : Cond.fieldLink k.1.cls idx (T kf).1 (T kf).2.1 (T kf).2.2.1 ∈ gw) (kk : ∀ h1, h1.length = h.length → J E k (f h1) Z pc' ls st h1 kc ks) : J E k ((pfV h a ci kf (.int x)).bind f) Z pc ls (.int x :: .ref a :: st) h kc ks := by
  subst he
  obtain ⟨p, l0, e, R, s, m, args, below, meth, c, G0, r0, h0, mc0, ms0⟩ := E
  obtain ⟨⟨rfl, rfl, rfl, rfl, rfl, rfl⟩, hR, hx, hb, hml, hr, hown, hts, hlk, hnm, hSF, hge⟩ := ok
  intro z hz hZ H locs la hsz hRH hS hl
  obtain ⟨h1, hx1, hz⟩ := Option.bind_eq_some_iff.mp hz
  obtain ⟨fs, h2, h3, rfl⟩ := pfV_spec hx1
  show W _ _ _ _ _ _ _ _ _ _ _ _ _ _ _ (F0 m pc la (.int x :: .ref (gAd G0 a) :: st.map (vc G0)))
  rw [gAd_lt (i := a) (ltFB hRH.1 h2)]
  refine va_putF (D := G0.1) (cl := vwCl) (tys := tyL G0) (ws := wsO G0 h) (v := .int x) (ty := .int) hx hb hts hin ty hty hnm2 hown hSF.2.1 hRH.2 wsO_D hS a (wsO_get h2) hcl kf hkf (hts _ hlink) (fun _ h => h) hfin (hnm.trans hinit) hdecl (by rw [← hn]; exact hty kf hkf) rfl rfl (by simpa using h3) hd (fun H1 locs1 hP1 hD1 hS1 => ?_)
  refine kk _ (by simp) z hz hZ H1 locs1 la (by simpa using hsz) (RH.set (c := .inl (ci, fs.set kf (.int x))) hRH ?_) hS1 hl
  simpa [cE, List.map_set, vc] using hP1
theorem J_objInit (ok : JOK E l G k mc ms r h') {a idx : Nat} (hd : decode k.2.1 pc = .ok (.invokespecial idx, 3)) {pc' : Nat} (he : pc + 3 = pc') (hlink : Cond.methodLink k.1.cls idx Lib.objectInit ∈ gw) (hinst : Cond.instanceMethod Lib.objectInit ∈ gw) (hcode : Cond.code Lib.objectInit ⟨#[0xb1]⟩ 1 none ∈ gw) (hfr : 1 ≤ k.2.2.2.2.1) (hlo : (st.map fun v => v.category).sum + 12 ≤ k.2.2.2.2.2) (kk : J E k M Z pc' ls st h kc ks) : J E k M Z pc ls (.ref a :: st) h kc ks := by
  subst he
  obtain ⟨p, l0, e, R, s, m, args, below, meth, c, G0, r0, h0, mc0, ms0⟩ := E
  obtain ⟨⟨rfl, rfl, rfl, rfl, rfl, rfl⟩, hR, hx, hb, hml, hr, hown, hts, hlk, hnm, hSF, hge⟩ := ok
  intro z hz hZ H locs la hsz hRH hS hl
  exact W.objInit hx hb hown (hts _ hlink) (hts _ hinst) (hts _ hcode) rfl (by rw [hml]; exact hl.1) rfl hd (by rw [hR]; exact hfr) (by show 2 * 0 + ((st.map (vc G0)).map fun v => v.category).sum + 12 ≤ _; rw [hR, cat_sum hSF.1]; show 2 * 0 + _ + 12 ≤ k.2.2.2.2.2; omega) (kk z hz hZ H locs la hsz hRH hS hl)
theorem gAd_FB {G : GX} {i : Nat} : gAd G (FB + i) = gF G i := by
  unfold gAd
  rw [if_neg (Nat.not_lt.mpr (Nat.le_add_right _ _)), Nat.add_sub_cancel_left]
theorem J_gsLow (ok : JOK E l G k mc ms r h') {idx : Nat} (hd : decode k.2.1 pc = .ok (.getstatic idx, 3)) {pc' : Nat} (he : pc + 3 = pc') (hlink : Cond.fieldLink k.1.cls idx "SplitProgram" "TERM_LOWEST" "[I" ∈ gw) (kk : J E k M Z pc' ls (.ref (FB + 0) :: st) h kc ks) : J E k M Z pc ls st h kc ks := by
  subst he
  obtain ⟨p, l0, e, R, s, m, args, below, meth, c, G0, r0, h0, mc0, ms0⟩ := E
  obtain ⟨⟨rfl, rfl, rfl, rfl, rfl, rfl⟩, hR, hx, hb, hml, hr, hown, hts, hlk, hnm, hSF, hge⟩ := ok
  intro z hz hZ H locs la hsz hRH hS hl
  have hk := kk z hz hZ H locs la hsz hRH hS hl
  simp only [List.map_cons, vc_ref, gAd_FB] at hk
  exact va_gets (C := "SplitProgram") (n := "TERM_LOWEST") (d := "[I") hx hb hSF.2.2.1.1 hS hown (hts _ hlink) (fun _ h => h) hd hk
theorem J_gsHigh (ok : JOK E l G k mc ms r h') {idx : Nat} (hd : decode k.2.1 pc = .ok (.getstatic idx, 3)) {pc' : Nat} (he : pc + 3 = pc') (hlink : Cond.fieldLink k.1.cls idx "SplitProgram" "TERM_HIGHEST" "[I" ∈ gw) (kk : J E k M Z pc' ls (.ref (FB + 1) :: st) h kc ks) : J E k M Z pc ls st h kc ks := by
  subst he
  obtain ⟨p, l0, e, R, s, m, args, below, meth, c, G0, r0, h0, mc0, ms0⟩ := E
  obtain ⟨⟨rfl, rfl, rfl, rfl, rfl, rfl⟩, hR, hx, hb, hml, hr, hown, hts, hlk, hnm, hSF, hge⟩ := ok
  intro z hz hZ H locs la hsz hRH hS hl
  have hk := kk z hz hZ H locs la hsz hRH hS hl
  simp only [List.map_cons, vc_ref, gAd_FB] at hk
  exact va_gets (C := "SplitProgram") (n := "TERM_HIGHEST") (d := "[I") hx hb hSF.2.2.2.1.1 hS hown (hts _ hlink) (fun _ h => h) hd hk
theorem J_gsCompact (ok : JOK E l G k mc ms r h') {idx : Nat} (hd : decode k.2.1 pc = .ok (.getstatic idx, 3)) {pc' : Nat} (he : pc + 3 = pc') (hlink : Cond.fieldLink k.1.cls idx "java/lang/String" "COMPACT_STRINGS" "Z" ∈ gw) (kk : J E k M Z pc' ls (.int 1 :: st) h kc ks) : J E k M Z pc ls st h kc ks := by
  subst he
  obtain ⟨p, l0, e, R, s, m, args, below, meth, c, G0, r0, h0, mc0, ms0⟩ := E
  obtain ⟨⟨rfl, rfl, rfl, rfl, rfl, rfl⟩, hR, hx, hb, hml, hr, hown, hts, hlk, hnm, hSF, hge⟩ := ok
  intro z hz hZ H locs la hsz hRH hS hl
  have hk := kk z hz hZ H locs la hsz hRH hS hl
  simp only [List.map_cons, vc_ref, gAd_FB] at hk
  exact va_gets (C := "java/lang/String") (n := "COMPACT_STRINGS") (d := "Z") hx hb hSF.2.2.2.2.1.1 hS hown (hts _ hlink) (fun _ h => h) hd hk
theorem J_gsFmt (ok : JOK E l G k mc ms r h') {idx : Nat} (hd : decode k.2.1 pc = .ok (.getstatic idx, 3)) {pc' : Nat} (he : pc + 3 = pc') (hlink : Cond.fieldLink k.1.cls idx "jdk/internal/util/Preconditions" "SIOOBE_FORMATTER" "Ljava/util/function/BiFunction;" ∈ gw) (kk : J E k M Z pc' ls (.retAddr 0 :: st) h kc ks) : J E k M Z pc ls st h kc ks := by
  subst he
  obtain ⟨p, l0, e, R, s, m, args, below, meth, c, G0, r0, h0, mc0, ms0⟩ := E
  obtain ⟨⟨rfl, rfl, rfl, rfl, rfl, rfl⟩, hR, hx, hb, hml, hr, hown, hts, hlk, hnm, hSF, hge⟩ := ok
  intro z hz hZ H locs la hsz hRH hS hl
  have hk := kk z hz hZ H locs la hsz hRH hS hl
  simp only [List.map_cons, vc_ref, gAd_FB] at hk
  exact va_gets (C := "jdk/internal/util/Preconditions") (n := "SIOOBE_FORMATTER") (d := "Ljava/util/function/BiFunction;") hx hb hSF.2.2.2.2.1.2 hS hown (hts _ hlink) (fun _ h => h) hd hk
theorem J_ldcS (ok : JOK E l G k mc ms r h') {idx q : Nat} {tx : String} (hd : decode k.2.1 pc = .ok (.ldc idx, 2)) {pc' : Nat} (he : pc + 2 = pc') (hm : (k.1.cls, idx, tx, q) ∈ ldcT) (kk : J E k M Z pc' ls (.ref (FB + q) :: st) h kc ks) : J E k M Z pc ls st h kc ks := by
  subst he
  obtain ⟨p, l0, e, R, s, m, args, below, meth, c, G0, r0, h0, mc0, ms0⟩ := E
  obtain ⟨⟨rfl, rfl, rfl, rfl, rfl, rfl⟩, hR, hx, hb, hml, hr, hown, hts, hlk, hnm, hSF, hge⟩ := ok
  intro z hz hZ H locs la hsz hRH hS hl
  have hk := kk z hz hZ H locs la hsz hRH hS hl
  simp only [List.map_cons, vc_ref, gAd_FB] at hk
  exact va_ldcS (tx := tx) hx hb hown (hSF.2.2.2.2.2.2.1 _ hm) hd hk
theorem fcell_str {a : Nat} {fs : List Value} (h : fcell a = some (.inl (100, fs))) : ∃ i, i < 4 ∧ a = 2 + i ∧ fs = [.ref (FB + (6 + i)), .int 0] := by
  unfold fcell at h
  split at h
  case h_3 => cases h; exact ⟨0, by decide, rfl, rfl⟩
  case h_4 => cases h; exact ⟨1, by decide, rfl, rfl⟩
  case h_5 => cases h; exact ⟨2, by decide, rfl, rfl⟩
  case h_6 => cases h; exact ⟨3, by decide, rfl, rfl⟩
  all_goals cases h
theorem gfV_str {G : GX} {H : Heap} {h : AHeap} {a k : Nat} {v : Value} (hRH : RH G h H) (hv : gfV h a 100 k = some v) : ∃ i, i < 4 ∧ a = FB + (2 + i) ∧ ([.ref (FB + (6 + i)), .int 0] : List Value)[k]? = some v := by
  unfold gfV cAt at hv
  split at hv
  · rename_i o ho
    split at hv
    · rename_i e
      obtain ⟨oc, fs⟩ := o
      simp only at e
      subst e
      by_cases ha : a < FB
      · rw [if_pos ha] at ho
        obtain ⟨r, h1, -⟩ := hRH.2 a _ (wsO_get ho)
        simp at h1
      · rw [if_neg ha] at ho
        obtain ⟨i, hi, e1, e2⟩ := fcell_str ho
        simp only at hv
        rw [e2] at hv
        exact ⟨i, hi, by omega, hv⟩
    · cases hv
  · cases hv
theorem J_strV (ok : JOK E l G k mc ms r h') {a idx : Nat} {f : Nat → Option β} (hd : decode k.2.1 pc = .ok (.getfield idx, 3)) {pc' : Nat} (he : pc + 3 = pc') (hlink : Cond.fieldLink k.1.cls idx "java/lang/String" "value" "[B" ∈ gw) (kk : ∀ x, J E k (f x) Z pc' ls (.ref x :: st) h kc ks) : J E k ((gfR h a 100 0).bind f) Z pc ls (.ref a :: st) h kc ks := by
  subst he
  obtain ⟨p, l0, e, R, s, m, args, below, meth, c, G0, r0, h0, mc0, ms0⟩ := E
  obtain ⟨⟨rfl, rfl, rfl, rfl, rfl, rfl⟩, hR, hx, hb, hml, hr, hown, hts, hlk, hnm, hSF, hge⟩ := ok
  intro z hz hZ H locs la hsz hRH hS hl
  obtain ⟨x, hx1, hz⟩ := Option.bind_eq_some_iff.mp hz
  obtain ⟨i, hi, rfl, h2⟩ := gfV_str hRH (gfR_spec hx1)
  have e : x = FB + (6 + i) := by simpa using h2.symm
  subst e
  have hk := kk _ z hz hZ H locs la hsz hRH hS hl
  simp only [List.map_cons, vc_ref, gAd_FB] at hk ⊢
  exact vk_getf (o := "java/lang/String") (n := "value") (d := "[B") hx hb ((hSF.2.2.2.2.2.1.1 i hi).2.2.1) hS hown (hts _ hlink) (fun _ h => h) hd hk
theorem J_strC (ok : JOK E l G k mc ms r h') {a idx : Nat} {f : Int32 → Option β} (hd : decode k.2.1 pc = .ok (.getfield idx, 3)) {pc' : Nat} (he : pc + 3 = pc') (hlink : Cond.fieldLink k.1.cls idx "java/lang/String" "coder" "B" ∈ gw) (kk : ∀ x, J E k (f x) Z pc' ls (.int x :: st) h kc ks) : J E k ((gfI h a 100 1).bind f) Z pc ls (.ref a :: st) h kc ks := by
  subst he
  obtain ⟨p, l0, e, R, s, m, args, below, meth, c, G0, r0, h0, mc0, ms0⟩ := E
  obtain ⟨⟨rfl, rfl, rfl, rfl, rfl, rfl⟩, hR, hx, hb, hml, hr, hown, hts, hlk, hnm, hSF, hge⟩ := ok
  intro z hz hZ H locs la hsz hRH hS hl
  obtain ⟨x, hx1, hz⟩ := Option.bind_eq_some_iff.mp hz
  obtain ⟨i, hi, rfl, h2⟩ := gfV_str hRH (gfI_spec hx1)
  have e : x = 0 := by simpa using h2.symm
  subst e
  have hk := kk _ z hz hZ H locs la hsz hRH hS hl
  simp only [List.map_cons, vc_ref, gAd_FB, vc_int] at hk ⊢
  exact vk_getf (o := "java/lang/String") (n := "coder") (d := "B") hx hb ((hSF.2.2.2.2.2.1.1 i hi).2.1) hS hown (hts _ hlink) (fun _ h => h) hd hk
theorem J_alen (ok : JOK E l G k mc ms r h') {a : Nat} {f : Int32 → Option β} (hd : decode k.2.1 pc = .ok (.arraylength, 1)) {pc' : Nat} (he : pc + 1 = pc') (kk : ∀ x, J E k (f x) Z pc' ls (.int x :: st) h kc ks) : J E k ((alen h a).bind f) Z pc ls (.ref a :: st) h kc ks := by
  subst he
  obtain ⟨p, l0, e, R, s, m, args, below, meth, c, G0, r0, h0, mc0, ms0⟩ := E
  obtain ⟨⟨rfl, rfl, rfl, rfl, rfl, rfl⟩, hR, hx, hb, hml, hr, hown, hts, hlk, hnm, hSF, hge⟩ := ok
  intro z hz hZ H locs la hsz hRH hS hl
  obtain ⟨x, hx1, hz⟩ := Option.bind_eq_some_iff.mp hz
  obtain ⟨t, xs, ht3, h1, h2⟩ := alen_spec hx1
  have hk := kk _ z hz hZ H locs la hsz hRH hS hl
  show W _ _ _ _ _ _ _ _ _ _ _ _ _ _ _ (F0 m pc la (.ref (gAd G0 a) :: st.map (vc G0)))
  unfold cAt at h1
  by_cases ha : a < FB
  · rw [if_pos ha] at h1
    rw [gAd_lt ha]
    have hP := hRH.2 a _ (wsO_get h1)
    have hW := fun (t9 : Nat) (ty : FieldType) (ht9 : (tyL G0)[t9]? = some (G0.2.1 t, ty)) => va_alen (D := G0.1) (cl := vwCl) (tys := tyL G0) (ws := wsO G0 h) hx hb hSF.2.1 hRH.2 a t9 (wsO_get h1) ht9 h2.symm hd hk
    by_cases h0 : t = 0
    · subst h0; exact hW 0 _ rfl
    by_cases h1' : t = 1
    · subst h1'; exact hW 1 _ rfl
    by_cases h2' : t = 2
    · subst h2'; exact hW 2 _ rfl
    exact absurd ht3 (by omega)
  · rw [if_neg ha] at h1
    by_cases ht : t = 2
    · subst ht
      obtain ⟨j, hj, e1, e2, e3⟩ := fcell_byte h1
      have hA : gAd G0 a = gF G0 (6 + j) := by unfold gAd; rw [if_neg ha, e1]
      rw [hA]
      exact va_tlen (N := xs.length) hx hb (by have := (hSF.2.2.2.2.2.1.1 j hj).2.2.2; rw [← e3] at this; exact this) hS h2.symm hd hk
    · by_cases h0 : t = 0
      · rcases fcell_int h1 h0 with ⟨e1, rfl⟩ | ⟨e1, rfl⟩
        · have hA : gAd G0 a = gF G0 0 := by unfold gAd; rw [if_neg ha, e1]
          rw [hA]
          exact va_tlen (N := 4) hx hb hSF.2.2.1.2 hS h2.symm hd hk
        · have hA : gAd G0 a = gF G0 1 := by unfold gAd; rw [if_neg ha, e1]
          rw [hA]
          exact va_tlen (N := 4) hx hb hSF.2.2.2.1.2 hS h2.symm hd hk
      · exfalso
        unfold fcell at h1
        split at h1 <;> first | (cases h1; simp at ht h0; done) | cases h1
theorem J_f2raw (ok : JOK E l G k mc ms r h') {idx : Nat} {x : UInt32} (hd : decode k.2.1 pc = .ok (.invokestatic idx, 3)) {pc' : Nat} (he : pc + 3 = pc') (hlink : Cond.methodLink k.1.cls idx ⟨"java/lang/Float", "floatToRawIntBits", "(F)I"⟩ ∈ gw) (hnat : Cond.native ⟨"java/lang/Float", "floatToRawIntBits", "(F)I"⟩ ∈ gw) (hstat : Cond.static ⟨"java/lang/Float", "floatToRawIntBits", "(F)I"⟩ ∈ gw) (hini : Cond.initialized "java/lang/Float" ∈ gw) (hfr : 1 ≤ k.2.2.2.2.1) (hlo : (st.map fun v => v.category).sum + 15 ≤ k.2.2.2.2.2) (kk : J E k M Z pc' ls (.int x.toInt32 :: st) h kc ks) : J E k M Z pc ls (.float x :: st) h kc ks := by
  subst he
  obtain ⟨p, l0, e, R, s, m, args, below, meth, c, G0, r0, h0, mc0, ms0⟩ := E
  obtain ⟨⟨rfl, rfl, rfl, rfl, rfl, rfl⟩, hR, hx, hb, hml, hr, hown, hts, hlk, hnm, hSF, hge⟩ := ok
  intro z hz hZ H locs la hsz hRH hS hl
  exact vn_f2i hx hb (by rw [hl.1]; exact hml) hown (hts _ hlink) (hts _ hnat) (hts _ hstat) (hts _ hini) (by rw [hR]; exact hfr) (by rw [hR, cat_sum hSF.1]; exact hlo) hd (kk z hz hZ H locs la hsz hRH hS hl)
theorem J_d2raw (ok : JOK E l G k mc ms r h') {idx : Nat} {x : UInt64} (hd : decode k.2.1 pc = .ok (.invokestatic idx, 3)) {pc' : Nat} (he : pc + 3 = pc') (hlink : Cond.methodLink k.1.cls idx ⟨"java/lang/Double", "doubleToRawLongBits", "(D)J"⟩ ∈ gw) (hnat : Cond.native ⟨"java/lang/Double", "doubleToRawLongBits", "(D)J"⟩ ∈ gw) (hstat : Cond.static ⟨"java/lang/Double", "doubleToRawLongBits", "(D)J"⟩ ∈ gw) (hini : Cond.initialized "java/lang/Double" ∈ gw) (hfr : 1 ≤ k.2.2.2.2.1) (hlo : (st.map fun v => v.category).sum + 15 ≤ k.2.2.2.2.2) (kk : J E k M Z pc' ls (.long x.toInt64 :: st) h kc ks) : J E k M Z pc ls (.double x :: st) h kc ks := by
  subst he
  obtain ⟨p, l0, e, R, s, m, args, below, meth, c, G0, r0, h0, mc0, ms0⟩ := E
  obtain ⟨⟨rfl, rfl, rfl, rfl, rfl, rfl⟩, hR, hx, hb, hml, hr, hown, hts, hlk, hnm, hSF, hge⟩ := ok
  intro z hz hZ H locs la hsz hRH hS hl
  exact vn_d2l hx hb (by rw [hl.1]; exact hml) hown (hts _ hlink) (hts _ hnat) (hts _ hstat) (hts _ hini) (by rw [hR]; exact hfr) (by rw [hR, cat_sum hSF.1]; exact hlo) hd (kk z hz hZ H locs la hsz hRH hS hl)
/-- a switch: the places' programs in a row, the rest's behind -/
def swi (x : Int32) (lo : Int) (A : List (Option β)) (D : Option β) : Option β := if x.toInt < lo then D else (A[(x.toInt - lo).toNat]?).getD D
theorem J_tsw (ok : JOK E l G k mc ms r h') {x : Int32} {dflt lo hi : Int} {offs : Array Int} {len tgd : Nat} {A : List (Option β)} {D : Option β} (tg : List Nat) (hd : decode k.2.1 pc = .ok (.tableswitch dflt lo hi offs, len)) (hA : (A.length : Int) = hi - lo + 1) (htg : tg.map (fun t : Nat => (t : Int) - (pc : Int)) = offs.toList) (htd : (pc : Int) + dflt = (tgd : Int)) (hlt : tg.length = A.length) (kd : J E k D Z tgd ls st h kc ks) (kk : ∀ (i : Nat) (M : Option β) (t : Nat), A[i]? = some M → tg[i]? = some t → J E k M Z t ls st h kc ks) : J E k (swi x lo A D) Z pc ls (.int x :: st) h kc ks := by
  obtain ⟨p, l0, e, R, s, m, args, below, meth, c, G0, r0, h0, mc0, ms0⟩ := E
  obtain ⟨⟨rfl, rfl, rfl, rfl, rfl, rfl⟩, hR, hx, hb, hml, hr, hown, hts, hlk, hnm, hSF, hge⟩ := ok
  intro z hz hZ H locs la hsz hRH hS hl
  unfold swi at hz
  by_cases h1 : x.toInt < lo
  · rw [if_pos h1] at hz
    exact lv_tableOut hx hb hd (Or.inl h1) htd (kd z hz hZ H locs la hsz hRH hS hl)
  · rw [if_neg h1] at hz
    by_cases h2 : hi < x.toInt
    · have h3 : A[(x.toInt - lo).toNat]? = none := List.getElem?_eq_none (by omega)
      rw [h3] at hz
      exact lv_tableOut hx hb hd (Or.inr h2) htd (kd z hz hZ H locs la hsz hRH hS hl)
    · have h3 : (x.toInt - lo).toNat < A.length := by omega
      rw [List.getElem?_eq_getElem h3] at hz
      have h4 : (x.toInt - lo).toNat < tg.length := by omega
      have h5 : offs[(x.toInt - lo).toNat]? = some (((tg[(x.toInt - lo).toNat] : Nat) : Int) - (pc : Int)) := by
        rw [← Array.getElem?_toList, ← htg, List.getElem?_map, List.getElem?_eq_getElem h4]
        rfl
      exact lv_tableIn (tgt := tg[(x.toInt - lo).toNat]) hx hb hd h1 h2 h5 (by omega) (kk _ _ _ (List.getElem?_eq_getElem h3) (List.getElem?_eq_getElem h4) z hz hZ H locs la hsz hRH hS hl)
/-- a loop: a body that goes on or leaves, at most so many times -/
def iter {σ ρ : Type} (body : σ → Option (σ ⊕ ρ)) : Nat → σ → Option ρ
  | 0, _ => none
  | n + 1, s => match body s with
    | none => none
    | some (.inl s') => iter body n s'
    | some (.inr q) => some q
def Lmax : Nat := 1000000
theorem J_iter {σ ρ : Type} {body : σ → Option (σ ⊕ ρ)} {rest : ρ → Option β} (lf : σ → List (Option Value)) (sf : σ → List Value) (hf : σ → AHeap) (px : ρ → Nat) (lx : ρ → List (Option Value)) (sx : ρ → List Value) (hx : ρ → AHeap)
    (hb : ∀ (Y : σ ⊕ ρ → Prop) (s : σ), (∀ s', Y (.inl s') → JW E k pc (lf s') (sf s') (hf s') kc ks) → (∀ q, Y (.inr q) → JW E k (px q) (lx q) (sx q) (hx q) kc ks) → J E k (body s) Y pc (lf s) (sf s) (hf s) kc ks)
    (hr : ∀ q, J E k (rest q) Z (px q) (lx q) (sx q) (hx q) kc ks) : ∀ (n : Nat) (s : σ), J E k ((iter body n s).bind rest) Z pc (lf s) (sf s) (hf s) kc ks
  | 0, s => fun z hz _ => by simp [iter] at hz
  | n + 1, s => by
    intro z hz hZ
    have ih := J_iter lf sf hf px lx sx hx hb hr n
    cases hby : body s with
    | none => simp [iter, hby] at hz
    | some y =>
      refine hb (fun y' => y' = y) s (fun s' hY => ?_) (fun q hY => ?_) y hby rfl
      · subst hY
        exact ih s' z (by simpa [iter, hby] using hz) hZ
      · subst hY
        exact hr q z (by simpa [iter, hby] using hz) hZ
end Rules4
/-- fewer known locals -/
def lsub : List (Option Value) → List (Option Value) → Prop
  | [], _ => True
  | none :: t, [] => lsub t []
  | none :: t, _ :: t' => lsub t t'
  | some v :: t, some w :: t' => v = w ∧ lsub t t'
  | some _ :: _, none :: _ => False
  | some _ :: _, [] => False
theorem lsub_at : ∀ (a b : List (Option Value)), lsub a b → ∀ (i : Nat) (v : Value), a[i]? = some (some v) → b[i]? = some (some v)
  | [], _, _, i, v, h => by simp at h
  | none :: t, [], hs, i, v, h => by
    cases i with
    | zero => simp at h
    | succ i => simpa using lsub_at t [] hs i v (by simpa using h)
  | none :: t, c :: t', hs, i, v, h => by
    cases i with
    | zero => simp at h
    | succ i => simpa using lsub_at t t' hs i v (by simpa using h)
  | some w :: t, some u :: t', hs, i, v, h => by
    obtain ⟨rfl, hs⟩ := hs
    cases i with
    | zero => simpa using h
    | succ i => simpa using lsub_at t t' hs i v (by simpa using h)
theorem JW_weak {E : JE} {k : Cd} {pc : Nat} {ls ls' : List (Option Value)} {st : List Value} {h : AHeap} {kc ks : Nat} (hs : lsub ls' ls) (kk : JW E k pc ls' st h kc ks) : JW E k pc ls st h kc ks := by
  obtain ⟨p, l0, e, R, s, m, args, below, meth, c, G0, r0, h0, mc0, ms0⟩ := E
  intro H locs la hsz hRH hS hl
  exact kk H locs la hsz hRH hS ⟨hl.1, hl.2.1, fun i v hi => hl.2.2 i v (lsub_at _ _ hs i v hi)⟩
theorem J_weak {E : JE} {k : Cd} {β : Type} {M : Option β} {Z : β → Prop} {pc : Nat} {ls ls' : List (Option Value)} {st : List Value} {h : AHeap} {kc ks : Nat} (hs : lsub ls' ls) (kk : J E k M Z pc ls' st h kc ks) : J E k M Z pc ls st h kc ks := fun z hz hZ => JW_weak hs (kk z hz hZ)
/-- the end of a loop's body -/
theorem J_fin {E : JE} {k : Cd} {β : Type} {Y : β → Prop} {x : β} {pc : Nat} {ls : List (Option Value)} {st : List Value} {h : AHeap} {kc ks : Nat} (kk : Y x → JW E k pc ls st h kc ks) : J E k (some x) Y pc ls st h kc ks := fun z hz hY => kk (by cases hz; exact hY)
/-- a number that is known -/
def eqc (x c : Int32) : Option Unit := if x = c then some () else none
theorem J_eqc {E : JE} {k : Cd} {β : Type} {M : Option β} {Z : β → Prop} {pc : Nat} {ls : List (Option Value)} {st : List Value} {h : AHeap} {kc ks : Nat} {x c : Int32} (kk : J E k M Z pc ls (.int c :: st) h kc ks) : J E k ((eqc x c).bind fun _ => M) Z pc ls (.int x :: st) h kc ks := by
  intro z hz hZ
  by_cases hx : x = c
  · subst hx
    exact kk z (by simpa [eqc] using hz) hZ
  · simp [eqc, hx] at hz
theorem CT_of {l : Launch} {G : GX} {k : Cd} {mc ms : Nat} {av : List Value} {h : AHeap} {r : Option Value} {h' : AHeap} {ls : List (Option Value)} {β : Type} {M : Option β} {Z : β → Prop} {z : β} (hy : plainFor k.1 = true) (hlen : (lsOf av).length ≤ k.2.2.1) (hM : M = some z) (hZ : Z z) (hs : lsub ls (lsOf av)) (hJ : ∀ E, JOK E l G k mc ms r h' → J E k M Z 0 ls [] h 0 0) : CT l G k mc ms av h r h' := CT.ofJ hy hlen (fun E ok => JW_weak hs (hJ E ok z hM hZ))
/-- words of the tables -/
theorem gw_in {w : Cond} (h : w ∈ tables_1) (hg : goodWord w = true) : w ∈ gw := List.mem_filter.mpr ⟨List.mem_append_right _ h, hg⟩
theorem tin1 {w : Cond} (h : w ∈ tables_1_1) : w ∈ tables_1 := List.mem_append_left _ h
theorem tin2 {w : Cond} (h : w ∈ tables_1_2) : w ∈ tables_1 := List.mem_append_right _ (List.mem_append_left _ h)
theorem tin3 {w : Cond} (h : w ∈ tables_1_3) : w ∈ tables_1 := List.mem_append_right _ (List.mem_append_right _ (List.mem_append_left _ h))
theorem tin4 {w : Cond} (h : w ∈ tables_1_4) : w ∈ tables_1 := List.mem_append_right _ (List.mem_append_right _ (List.mem_append_right _ (List.mem_append_left _ h)))
theorem tin5 {w : Cond} (h : w ∈ tables_1_5) : w ∈ tables_1 := List.mem_append_right _ (List.mem_append_right _ (List.mem_append_right _ (List.mem_append_right _ (List.mem_append_left _ h))))
theorem tin6 {w : Cond} (h : w ∈ tables_1_6) : w ∈ tables_1 := List.mem_append_right _ (List.mem_append_right _ (List.mem_append_right _ (List.mem_append_right _ (List.mem_append_right _ (List.mem_append_left _ h)))))
theorem tin7 {w : Cond} (h : w ∈ tables_1_7) : w ∈ tables_1 := List.mem_append_right _ (List.mem_append_right _ (List.mem_append_right _ (List.mem_append_right _ (List.mem_append_right _ (List.mem_append_right _ h)))))
theorem gw_sel {y : MethodName} {n : Nat} (i : Nat) (h : lw_privs[i]? = some (y, n)) : Cond.selects y.cls y y ∈ gw := List.mem_filter.mpr ⟨List.mem_append_left _ (List.mem_map.mpr ⟨(y, n), List.mem_of_getElem? h, rfl⟩), rfl⟩
theorem nest_of {w : Cond} (h : w ∈ tables_1) (hg : isNestW w = true) : w ∈ nestW := List.mem_filter.mpr ⟨h, hg⟩
def dcheck (c : ByteArray) (l : List (Nat × Instr × Nat)) : Bool := l.all (fun q => decide (decode c q.1 = .ok q.2))
theorem dOf {c : ByteArray} {l : List (Nat × Instr × Nat)} (h : dcheck c l = true) (i : Nat) {pc n : Nat} {ins : Instr} (hi : l[i]? = some (pc, ins, n)) : decode c pc = .ok (ins, n) := by
  have := List.all_eq_true.mp h _ (List.mem_of_getElem? hi)
  exact of_decide_eq_true this
