/-! rules of bytes, references, copies, lengths, library members, returns -/
theorem fcell_byte {a : Nat} {xs : List Int32} (h : fcell a = some (.inr (.inl (2, xs)))) : ∃ i, i < 4 ∧ a = 6 + i ∧ xs = [strB 0, strB 1, strB 2, strB 3].getD i [] ∧ xs.length = ([5, 4, 4, 4] : List Nat).getD i 0 := by
  unfold fcell at h
  split at h
  case h_7 => cases h; exact ⟨0, by decide, rfl, rfl, rfl⟩
  case h_8 => cases h; exact ⟨1, by decide, rfl, rfl, rfl⟩
  case h_9 => cases h; exact ⟨2, by decide, rfl, rfl, rfl⟩
  case h_10 => cases h; exact ⟨3, by decide, rfl, rfl, rfl⟩
  all_goals cases h
def nrw (ty : FieldType) (x : Int32) : Option Int32 := if narrow ty (.int x) = .int x then some x else none
theorem nrw_spec {ty : FieldType} {x y : Int32} (h : nrw ty x = some y) : x = y ∧ narrow ty (.int x) = .int x := by
  unfold nrw at h
  split at h
  · exact ⟨Option.some.inj h, ‹_›⟩
  · cases h
section Rules3
variable {E : JE} {l : Launch} {G : GX} {k : Cd} {mc ms : Nat} {r : Option Value} {h' : AHeap} {β : Type} {M : Option β} {Z : β → Prop} {pc : Nat} {ls : List (Option Value)} {st : List Value} {h : AHeap} {kc ks : Nat}

theorem J_bald (ok : JOK E l G k mc ms r h') {a : Nat} {i : Int32} {f : Int32 → Option β} (hd : decode k.2.1 pc = .ok (.baload, 1)) {pc' : Nat} (he : pc + 1 = pc') (kk : ∀ x, J E k (f x) Z pc' ls (.int x :: st) h kc ks) : J E k ((ald 2 h a i).bind f) Z pc ls (.int i :: .ref a :: st) h kc ks := by
  subst he
  obtain ⟨p, l0, e, R, s, m, args, below, meth, c, G0, r0, h0, mc0, ms0⟩ := E
  obtain ⟨⟨rfl, rfl, rfl, rfl, rfl, rfl⟩, hR, hx, hb, hml, hr, hown, hts, hlk, hnm, hSF, hge⟩ := ok
  intro z hz hZ H locs la hsz hRH hS hl
  obtain ⟨x, hx1, hz⟩ := Option.bind_eq_some_iff.mp hz
  obtain ⟨xs, h1, h2, h3⟩ := ald_spec hx1
  have hlt : i.toNatClampNeg < xs.length := (List.getElem?_eq_some_iff.mp h3).1
  have hk := kk x z hz hZ H locs la hsz hRH hS hl
  show W _ _ _ _ _ _ _ _ _ _ _ _ _ _ _ (F0 m pc la (.int i :: .ref (gAd G0 a) :: st.map (vc G0)))
  unfold cAt at h1
  by_cases ha : a < FB
  · rw [if_pos ha] at h1
    rw [gAd_lt ha]
    have he : xs.getD i.toNatClampNeg 0 = x := by simp [h3]
    refine va_bald (D := G0.1) (cl := vwCl) (tys := tyL G0) (ws := wsO G0 h) (f := fun j => xs.getD j 0) hx hb hSF.2.1 hRH.2 a 2 (wsO_get h1) rfl (vp_in_of2 h2 hlt) hd ?_
    rw [he]
    exact hk
  · rw [if_neg ha] at h1
    obtain ⟨j, hj, e1, e2, e3⟩ := fcell_byte h1
    have hA : gAd G0 a = gF G0 (6 + j) := by unfold gAd; rw [if_neg ha, e1]
    rw [hA]
    exact va_tb (N := xs.length) (f := fun q => .int (xs.getD q 0)) hx hb (by have := (hSF.2.2.2.2.2.1.1 j hj).2.2.2; rw [← e2, ← e3] at this; exact this) hS (vp_in_of2 h2 hlt) (v := .int x) (by simp [h3]) hd hk
theorem aldR_spec {h : AHeap} {a q : Nat} {i : Int32} (hv : aldR h a i = some q) : ∃ rs, h[a]? = some (.inr (.inr rs)) ∧ ¬ i < 0 ∧ rs[i.toNatClampNeg]? = some (some q) := by
  unfold aldR at hv
  split at hv
  · rename_i rs hrs
    split at hv
    · cases hv
    · rename_i hi
      split at hv
      · rename_i q' hq
        cases hv
        exact ⟨rs, hrs, hi, hq⟩
      · cases hv
  · cases hv
theorem J_aldR (ok : JOK E l G k mc ms r h') {a : Nat} {i : Int32} {f : Nat → Option β} (hd : decode k.2.1 pc = .ok (.aaload, 1)) {pc' : Nat} (he : pc + 1 = pc') (kk : ∀ x, J E k (f x) Z pc' ls (.ref x :: st) h kc ks) : J E k ((aldR h a i).bind f) Z pc ls (.int i :: .ref a :: st) h kc ks := by
  subst he
  obtain ⟨p, l0, e, R, s, m, args, below, meth, c, G0, r0, h0, mc0, ms0⟩ := E
  obtain ⟨⟨rfl, rfl, rfl, rfl, rfl, rfl⟩, hR, hx, hb, hml, hr, hown, hts, hlk, hnm, hSF, hge⟩ := ok
  intro z hz hZ H locs la hsz hRH hS hl
  obtain ⟨x, hx1, hz⟩ := Option.bind_eq_some_iff.mp hz
  obtain ⟨rs, h1, h2, h3⟩ := aldR_spec hx1
  have hlt : i.toNatClampNeg < rs.length := (List.getElem?_eq_some_iff.mp h3).1
  have hk := kk x z hz hZ H locs la hsz hRH hS hl
  show W _ _ _ _ _ _ _ _ _ _ _ _ _ _ _ (F0 m pc la (.int i :: .ref (gAd G0 a) :: st.map (vc G0)))
  rw [gAd_lt (ltFB hRH.1 h1)]
  have he : va_rf ((rs.getD i.toNatClampNeg none).map (gAd G0)) = .ref (gAd G0 x) := by simp [h3, va_rf]
  refine va_aldq (D := G0.1) (cl := vwCl) (tys := tyL G0) (ws := wsO G0 h) (f := fun j => (rs.getD j none).map (gAd G0)) hx hb hSF.2.1 hRH.2 a 3 (wsO_get h1) rfl (vp_in_of2 h2 hlt) hd ?_
  rw [he]
  exact hk
theorem acp_spec {h h1 : AHeap} {a b : Nat} {sp dp n : Int32} (hv : acp h a sp b dp n = some h1) : ∃ f g, h[a]? = some (.inr (.inl (0, f))) ∧ h[b]? = some (.inr (.inl (0, g))) ∧ ¬ sp < 0 ∧ ¬ dp < 0 ∧ ¬ n < 0 ∧ sp.toNatClampNeg + n.toNatClampNeg ≤ f.length ∧ dp.toNatClampNeg + n.toNatClampNeg ≤ g.length ∧ h1 = h.set b (.inr (.inl (0, cpyL f g sp.toNatClampNeg dp.toNatClampNeg n.toNatClampNeg))) := by
  unfold acp at hv
  split at hv
  · rename_i f g hf hg
    split at hv
    · rename_i hc
      cases hv
      exact ⟨f.2, g.2, by rw [hf, ← hc.1], by rw [hg, ← hc.2.1], hc.2.2.1, hc.2.2.2.1, hc.2.2.2.2.1, hc.2.2.2.2.2.1, hc.2.2.2.2.2.2, rfl⟩
    · cases hv
  · cases hv
theorem cpyL_len {f g : List Int32} {sp dp n : Nat} : (cpyL f g sp dp n).length = g.length := by simp [cpyL]
theorem cpyL_fun {f g : List Int32} {sp dp n : Nat} : ∀ j, j < g.length → (cpyL f g sp dp n).getD j 0 = va_cpy (fun j => f.getD j 0) (fun j => g.getD j 0) sp dp n j := by
  intro j hj
  simp [cpyL, va_cpy, hj]
theorem arrV_congr {cA : ClassId} {n : Nat} {f g : Nat → Value} (h : ∀ j, j < n → f j = g j) : arrV cA n f = arrV cA n g := by
  unfold arrV
  congr 1
  apply Array.ext
  · simp
  · intro i h1 h2
    simp at h1
    simp [h i h1]
theorem J_acp (ok : JOK E l G k mc ms r h') {a b idx : Nat} {sp dp n : Int32} {f : AHeap → Option β} (hd : decode k.2.1 pc = .ok (.invokestatic idx, 3)) {pc' : Nat} (he : pc + 3 = pc') (hlink : Cond.methodLink k.1.cls idx arraycopyName ∈ gw) (hnat : Cond.native arraycopyName ∈ gw) (hstat : Cond.static arraycopyName ∈ gw) (hini : Cond.initialized "java/lang/System" ∈ gw) (hfr : 1 ≤ k.2.2.2.2.1) (hlo : (st.map fun v => v.category).sum + (nativeFrameWords "java/lang/System" "arraycopy" 5 + 11) ≤ k.2.2.2.2.2) (kk : ∀ h1, h1.length = h.length → J E k (f h1) Z pc' ls st h1 kc ks) : J E k ((acp h a sp b dp n).bind f) Z pc ls (.int n :: .int dp :: .ref b :: .int sp :: .ref a :: st) h kc ks := by
  subst he
  obtain ⟨p, l0, e, R, s, m, args, below, meth, c, G0, r0, h0, mc0, ms0⟩ := E
  obtain ⟨⟨rfl, rfl, rfl, rfl, rfl, rfl⟩, hR, hx, hb, hml, hr, hown, hts, hlk, hnm, hSF, hge⟩ := ok
  intro z hz hZ H locs la hsz hRH hS hl
  obtain ⟨h1, hx1, hz⟩ := Option.bind_eq_some_iff.mp hz
  obtain ⟨fa, ga, h2, h3, q1, q2, q3, q4, q5, rfl⟩ := acp_spec hx1
  show W _ _ _ _ _ _ _ _ _ _ _ _ _ _ _ (F0 m pc la (.int n :: .int dp :: .ref (gAd G0 b) :: .int sp :: .ref (gAd G0 a) :: st.map (vc G0)))
  rw [gAd_lt (ltFB hRH.1 h2), gAd_lt (ltFB hRH.1 h3)]
  have hcat : ((st.map (vc G0)).map fun v => v.category).sum = (st.map fun v => v.category).sum := by
    congr 1
    rw [List.map_map]
    apply List.map_congr_left
    intro v _
    exact vc_cat hSF.1 v
  refine va_copyi (D := G0.1) (cl := vwCl) (tys := tyL G0) (ws := wsO G0 h) (f := fun j => fa.getD j 0) (g := fun j => ga.getD j 0) (ty := .int) hx hb (by rw [hl.1]; exact hml) hown (hts _ hlink) (hts _ hnat) (hts _ hstat) (hts _ hini) hSF.2.1 hRH.2 wsO_D hS a b 0 0 (wsO_get h2) (wsO_get h3) rfl rfl (by simp [refKind]) q1 q2 q3 q4 q5 (fun _ _ => rfl) (by rw [hR]; exact hfr) (by rw [hR, hcat]; exact hlo) hd (fun H1 locs1 hP1 hD1 hS1 => ?_)
  refine kk _ (by simp) z hz hZ H1 locs1 la (by simpa using hsz) (RH.set (c := .inr (.inl (0, cpyL fa ga sp.toNatClampNeg dp.toNatClampNeg n.toNatClampNeg))) hRH ?_) hS1 hl
  intro k9 q9 hq9
  by_cases hb9 : k9 = b
  · subst hb9
    have hlt : k9 < (wsO G0 h).length := (List.getElem?_eq_some_iff.mp (wsO_get h3)).1
    rw [List.getElem?_set_self hlt] at hq9
    cases hq9
    have hq := hP1 k9 _ (List.getElem?_set_self hlt)
    show H1[gB G0 + k9]? = some (vp_cell _ _)
    have hq' : H1[gB G0 + k9]? = some (vp_cell _ _) := hq
    rw [hq']
    simp only [vp_cell_i, cpyL_len]
    congr 1
    apply arrV_congr
    intro j hj
    rw [cpyL_fun j hj]
  · rw [List.getElem?_set_ne (Ne.symm hb9)] at hq9
    exact hP1 k9 q9 (by rw [List.getElem?_set_ne (Ne.symm hb9)]; exact hq9)
theorem alen_spec {h : AHeap} {a : Nat} {x : Int32} (hv : alen h a = some x) : ∃ t xs, t < 3 ∧ cAt h a = some (.inr (.inl (t, xs))) ∧ x = Int32.ofNat xs.length := by
  unfold alen at hv
  split at hv
  · rename_i q hq
    split at hv
    · cases hv
      exact ⟨q.1, q.2, ‹_›, hq, rfl⟩
    · cases hv
  · cases hv
theorem J_mmax (ok : JOK E l G k mc ms r h') {idx : Nat} {x y : Int32} (hd : decode k.2.1 pc = .ok (.invokestatic idx, 3)) {pc' : Nat} (he : pc + 3 = pc') (hlink : Cond.methodLink k.1.cls idx Lib.Math.max.name ∈ gw) (hstat : Cond.static Lib.Math.max.name ∈ gw) (hini : Cond.initialized "java/lang/Math" ∈ gw) (hcode : Cond.code Lib.Math.max.name Lib.Math.max.code 2 (some .int) ∈ gw) (hfr : 1 ≤ k.2.2.2.2.1) (hlo : (st.map fun v => v.category).sum + 13 ≤ k.2.2.2.2.2) (hc1 : kc ≤ mc) (hs1 : ks ≤ ms) (kk : J E k M Z pc' ls (.int (if x < y then y else x) :: st) h kc ks) : J E k M Z pc ls (.int y :: .int x :: st) h kc ks := by
  subst he
  obtain ⟨p, l0, e, R, s, m, args, below, meth, c, G0, r0, h0, mc0, ms0⟩ := E
  obtain ⟨⟨rfl, rfl, rfl, rfl, rfl, rfl⟩, hR, hx, hb, hml, hr, hown, hts, hlk, hnm, hSF, hge⟩ := ok
  intro z hz hZ H locs la hsz hRH hS hl
  have hcat : ((st.map (vc G0)).map fun v => v.category).sum = (st.map fun v => v.category).sum := by
    congr 1
    rw [List.map_map]
    apply List.map_congr_left
    intro v _
    exact vc_cat hSF.1 v
  exact va_mmax hx hb (by rw [hl.1]; exact hml) hown (hts _ hlink) (hts _ hstat) (hts _ hini) (hts _ hcode) (by rw [hR]; exact hfr) (by rw [hR, hcat]; exact hlo) (by rw [hR]; exact hc1) (by rw [hR]; exact hs1) hd (kk z hz hZ H locs la hsz hRH hS hl)
theorem J_mmin (ok : JOK E l G k mc ms r h') {idx : Nat} {x y : Int32} (hd : decode k.2.1 pc = .ok (.invokestatic idx, 3)) {pc' : Nat} (he : pc + 3 = pc') (hlink : Cond.methodLink k.1.cls idx Lib.Math.min.name ∈ gw) (hstat : Cond.static Lib.Math.min.name ∈ gw) (hini : Cond.initialized "java/lang/Math" ∈ gw) (hcode : Cond.code Lib.Math.min.name Lib.Math.min.code 2 (some .int) ∈ gw) (hfr : 1 ≤ k.2.2.2.2.1) (hlo : (st.map fun v => v.category).sum + 13 ≤ k.2.2.2.2.2) (hc1 : kc ≤ mc) (hs1 : ks ≤ ms) (kk : J E k M Z pc' ls (.int (if y < x then y else x) :: st) h kc ks) : J E k M Z pc ls (.int y :: .int x :: st) h kc ks := by
  subst he
  obtain ⟨p, l0, e, R, s, m, args, below, meth, c, G0, r0, h0, mc0, ms0⟩ := E
  obtain ⟨⟨rfl, rfl, rfl, rfl, rfl, rfl⟩, hR, hx, hb, hml, hr, hown, hts, hlk, hnm, hSF, hge⟩ := ok
  intro z hz hZ H locs la hsz hRH hS hl
  have hcat : ((st.map (vc G0)).map fun v => v.category).sum = (st.map fun v => v.category).sum := by
    congr 1
    rw [List.map_map]
    apply List.map_congr_left
    intro v _
    exact vc_cat hSF.1 v
  exact va_mmin hx hb (by rw [hl.1]; exact hml) hown (hts _ hlink) (hts _ hstat) (hts _ hini) (hts _ hcode) (by rw [hR]; exact hfr) (by rw [hR, hcat]; exact hlo) (by rw [hR]; exact hc1) (by rw [hR]; exact hs1) hd (kk z hz hZ H locs la hsz hRH hS hl)
theorem J_ireturn {v : Int32} {hh : AHeap} (ok : JOK E l G k mc ms (some (.int v)) h') {x : Int32} (hd : decode k.2.1 pc = .ok (.ireturn, 1)) (hret : k.2.2.2.1 = some .int) (hc1 : kc = mc) (hs1 : ks ≤ ms) : J E k (some (x, hh)) (fun z => z = (v, h')) pc ls [.int x] hh kc ks := by
  obtain ⟨p, l0, e, R, s, m, args, below, meth, c, G0, r0, h0, mc0, ms0⟩ := E
  obtain ⟨⟨rfl, rfl, rfl, rfl, rfl, rfl⟩, hR, hx, hb, hml, hr, hown, hts, hlk, hnm, hSF, hge⟩ := ok
  intro z hz hZ H locs la hsz hRH hS hl
  cases hz
  cases hZ
  refine W.sz (fun hsz2 => ?_)
  have hge2 := RH.ge (Nat.le_trans hge hS.1) hRH
  refine W.widen (Nat.le_of_eq hc1) hs1 ?_
  exact W.iret hx hb (hr.trans hret) (fun t ht hW => ⟨⟨_, (), rfl, rfl, by show RH _ _ t.heap ∧ t.heap.size = _ ∧ _; rw [ht]; exact ⟨hRH, by omega, by omega⟩⟩, hS.F ht⟩) hS.2.2 hd hlk
theorem J_zreturn {v : Int32} {hh : AHeap} (ok : JOK E l G k mc ms (some (.int v)) h') {x : Int32} (hd : decode k.2.1 pc = .ok (.ireturn, 1)) (hret : k.2.2.2.1 = some .boolean) (hc1 : kc = mc) (hs1 : ks ≤ ms) : J E k ((bz x).bind fun x => some (x, hh)) (fun z => z = (v, h')) pc ls [.int x] hh kc ks := by
  obtain ⟨p, l0, e, R, s, m, args, below, meth, c, G0, r0, h0, mc0, ms0⟩ := E
  obtain ⟨⟨rfl, rfl, rfl, rfl, rfl, rfl⟩, hR, hx, hb, hml, hr, hown, hts, hlk, hnm, hSF, hge⟩ := ok
  intro z hz hZ H locs la hsz hRH hS hl
  obtain ⟨y, hy, hz⟩ := Option.bind_eq_some_iff.mp hz
  obtain ⟨rfl, hn1, hn2⟩ := bz_spec hy
  cases hz
  cases hZ
  refine W.sz (fun hsz2 => ?_)
  have hge2 := RH.ge (Nat.le_trans hge hS.1) hRH
  refine W.widen (Nat.le_of_eq hc1) hs1 ?_
  exact W.zret hx hb (hr.trans hret) hn1 (fun t ht hW => ⟨⟨_, (), rfl, rfl, by show RH _ _ t.heap ∧ t.heap.size = _ ∧ _; rw [ht]; exact ⟨hRH, by omega, by omega⟩⟩, hS.F ht⟩) hS.2.2 hd hlk
theorem J_nreturn {v : Int32} {hh : AHeap} (ok : JOK E l G k mc ms (some (.int v)) h') {x : Int32} (hd : decode k.2.1 pc = .ok (.ireturn, 1)) {ty : FieldType} (hret : k.2.2.2.1 = some ty) (hc1 : kc = mc) (hs1 : ks ≤ ms) : J E k ((nrw ty x).bind fun x => some (x, hh)) (fun z => z = (v, h')) pc ls [.int x] hh kc ks := by
  obtain ⟨p, l0, e, R, s, m, args, below, meth, c, G0, r0, h0, mc0, ms0⟩ := E
  obtain ⟨⟨rfl, rfl, rfl, rfl, rfl, rfl⟩, hR, hx, hb, hml, hr, hown, hts, hlk, hnm, hSF, hge⟩ := ok
  intro z hz hZ H locs la hsz hRH hS hl
  obtain ⟨y, hy, hz⟩ := Option.bind_eq_some_iff.mp hz
  obtain ⟨rfl, hn1⟩ := nrw_spec hy
  cases hz
  cases hZ
  refine W.sz (fun hsz2 => ?_)
  have hge2 := RH.ge (Nat.le_trans hge hS.1) hRH
  refine W.widen (Nat.le_of_eq hc1) hs1 ?_
  exact W.zret hx hb (hr.trans hret) hn1 (fun t ht hW => ⟨⟨_, (), rfl, rfl, by show RH _ _ t.heap ∧ t.heap.size = _ ∧ _; rw [ht]; exact ⟨hRH, by omega, by omega⟩⟩, hS.F ht⟩) hS.2.2 hd hlk
theorem J_lreturn {v : Int64} {hh : AHeap} (ok : JOK E l G k mc ms (some (.long v)) h') {x : Int64} (hd : decode k.2.1 pc = .ok (.lreturn, 1)) (hret : k.2.2.2.1 = some .long) (hc1 : kc = mc) (hs1 : ks ≤ ms) : J E k (some (x, hh)) (fun z => z = (v, h')) pc ls [.long x] hh kc ks := by
  obtain ⟨p, l0, e, R, s, m, args, below, meth, c, G0, r0, h0, mc0, ms0⟩ := E
  obtain ⟨⟨rfl, rfl, rfl, rfl, rfl, rfl⟩, hR, hx, hb, hml, hr, hown, hts, hlk, hnm, hSF, hge⟩ := ok
  intro z hz hZ H locs la hsz hRH hS hl
  cases hz
  cases hZ
  refine W.sz (fun hsz2 => ?_)
  have hge2 := RH.ge (Nat.le_trans hge hS.1) hRH
  refine W.widen (Nat.le_of_eq hc1) hs1 ?_
  exact W.lret hx hb (hr.trans hret) (fun t ht hW => ⟨⟨_, (), rfl, rfl, by show RH _ _ t.heap ∧ t.heap.size = _ ∧ _; rw [ht]; exact ⟨hRH, by omega, by omega⟩⟩, hS.F ht⟩) hS.2.2 hd hlk
theorem J_freturn {v : UInt32} {hh : AHeap} (ok : JOK E l G k mc ms (some (.float v)) h') {x : UInt32} (hd : decode k.2.1 pc = .ok (.freturn, 1)) (hret : k.2.2.2.1 = some .float) (hc1 : kc = mc) (hs1 : ks ≤ ms) : J E k (some (x, hh)) (fun z => z = (v, h')) pc ls [.float x] hh kc ks := by
  obtain ⟨p, l0, e, R, s, m, args, below, meth, c, G0, r0, h0, mc0, ms0⟩ := E
  obtain ⟨⟨rfl, rfl, rfl, rfl, rfl, rfl⟩, hR, hx, hb, hml, hr, hown, hts, hlk, hnm, hSF, hge⟩ := ok
  intro z hz hZ H locs la hsz hRH hS hl
  cases hz
  cases hZ
  refine W.sz (fun hsz2 => ?_)
  have hge2 := RH.ge (Nat.le_trans hge hS.1) hRH
  refine W.widen (Nat.le_of_eq hc1) hs1 ?_
  exact W.fret hx hb (hr.trans hret) (fun t ht hW => ⟨⟨_, (), rfl, rfl, by show RH _ _ t.heap ∧ t.heap.size = _ ∧ _; rw [ht]; exact ⟨hRH, by omega, by omega⟩⟩, hS.F ht⟩) hS.2.2 hd hlk
theorem J_vreturn {hh : AHeap} (ok : JOK E l G k mc ms none h') (hd : decode k.2.1 pc = .ok (.return_, 1)) (hret : k.2.2.2.1 = none) (hc1 : kc = mc) (hs1 : ks ≤ ms) : J E k (some ((), hh)) (fun z => z = ((), h')) pc ls [] hh kc ks := by
  obtain ⟨p, l0, e, R, s, m, args, below, meth, c, G0, r0, h0, mc0, ms0⟩ := E
  obtain ⟨⟨rfl, rfl, rfl, rfl, rfl, rfl⟩, hR, hx, hb, hml, hr, hown, hts, hlk, hnm, hSF, hge⟩ := ok
  intro z hz hZ H locs la hsz hRH hS hl
  cases hz
  cases hZ
  refine W.sz (fun hsz2 => ?_)
  have hge2 := RH.ge (Nat.le_trans hge hS.1) hRH
  refine W.widen (Nat.le_of_eq hc1) hs1 ?_
  exact W.vret hx hb (hr.trans hret) (fun t ht hW => ⟨⟨(), rfl, trivial, by show RH _ _ t.heap ∧ t.heap.size = _ ∧ _; rw [ht]; exact ⟨hRH, by omega, by omega⟩⟩, hS.F ht⟩) hS.2.2 hd hlk
end Rules3
