def bnd2 {α β : Type} (F : Option (α × AHeap)) (f : α → AHeap → Option β) : Option β := F.bind fun q => f q.1 q.2
/-! shallow operations on the abstract heap -/
def gfV (h : AHeap) (a ci k : Nat) : Option Value := match cAt h a with
  | some (.inl o) => if o.1 = ci then o.2[k]? else none
  | _ => none
def gfI (h : AHeap) (a ci k : Nat) : Option Int32 := match gfV h a ci k with
  | some (.int x) => some x
  | _ => none
def gfR (h : AHeap) (a ci k : Nat) : Option Nat := match gfV h a ci k with
  | some (.ref x) => some x
  | _ => none
def pfV (h : AHeap) (a ci k : Nat) (v : Value) : Option AHeap := match h[a]? with
  | some (.inl o) => if o.1 = ci ∧ k < o.2.length then some (h.set a (.inl (ci, o.2.set k v))) else none
  | _ => none
def ald (t : Nat) (h : AHeap) (a : Nat) (i : Int32) : Option Int32 := match cAt h a with
  | some (.inr (.inl q)) => if q.1 = t ∧ ¬ i < 0 then q.2[i.toNatClampNeg]? else none
  | _ => none
def nar (t : Nat) (x : Int32) : Int32 := if t = 0 then x else if t = 1 then vp_nar .boolean x else vp_nar .byte x
def ast (t : Nat) (h : AHeap) (a : Nat) (i x : Int32) : Option AHeap := match h[a]? with
  | some (.inr (.inl q)) => if q.1 = t ∧ ¬ i < 0 ∧ i.toNatClampNeg < q.2.length then some (h.set a (.inr (.inl (t, q.2.set i.toNatClampNeg (nar t x))))) else none
  | _ => none
def aldR (h : AHeap) (a : Nat) (i : Int32) : Option Nat := match h[a]? with
  | some (.inr (.inr rs)) => if i < 0 then none else (match rs[i.toNatClampNeg]? with
    | some (some q) => some q
    | _ => none)
  | _ => none
def alen (h : AHeap) (a : Nat) : Option Int32 := match cAt h a with
  | some (.inr (.inl q)) => if q.1 < 3 then some (Int32.ofNat q.2.length) else none
  | _ => none
def cpyL (f g : List Int32) (sp dp n : Nat) : List Int32 := (List.range g.length).map (fun j => if dp ≤ j ∧ j < dp + n then f.getD (sp + (j - dp)) 0 else g.getD j 0)
def acp (h : AHeap) (a : Nat) (sp : Int32) (b : Nat) (dp n : Int32) : Option AHeap := match h[a]?, h[b]? with
  | some (.inr (.inl f)), some (.inr (.inl g)) => if f.1 = 0 ∧ g.1 = 0 ∧ ¬ sp < 0 ∧ ¬ dp < 0 ∧ ¬ n < 0 ∧ sp.toNatClampNeg + n.toNatClampNeg ≤ f.2.length ∧ dp.toNatClampNeg + n.toNatClampNeg ≤ g.2.length then some (h.set b (.inr (.inl (0, cpyL f.2 g.2 sp.toNatClampNeg dp.toNatClampNeg n.toNatClampNeg)))) else none
  | _, _ => none
/-- what a boolean may hold -/
def bz (x : Int32) : Option Int32 := if x = 0 ∨ x = 1 then some x else none
theorem fcell_obj {a : Nat} {o : Nat × List Value} (h : fcell a = some (.inl o)) : o.1 = 100 := by
  unfold fcell at h
  split at h <;> first | (cases h; rfl) | cases h
theorem gfV_spec {h : AHeap} {a ci k : Nat} {v : Value} (hv : gfV h a ci k = some v) (hci : ¬ ci = 100) : a < FB ∧ ∃ fs, h[a]? = some (.inl (ci, fs)) ∧ fs[k]? = some v := by
  unfold gfV cAt at hv
  split at hv
  · rename_i o ho
    split at hv
    · rename_i e
      by_cases ha : a < FB
      · rw [if_pos ha] at ho
        refine ⟨ha, o.2, ?_, hv⟩
        rw [ho, ← e]
      · rw [if_neg ha] at ho
        exact absurd (e.symm.trans (fcell_obj ho)) hci
    · cases hv
  · cases hv
theorem gfI_spec {h : AHeap} {a ci k : Nat} {v : Int32} (hv : gfI h a ci k = some v) : gfV h a ci k = some (.int v) := by
  unfold gfI at hv
  split at hv
  · cases hv; assumption
  · cases hv
theorem gfR_spec {h : AHeap} {a ci k : Nat} {v : Nat} (hv : gfR h a ci k = some v) : gfV h a ci k = some (.ref v) := by
  unfold gfR at hv
  split at hv
  · cases hv; assumption
  · cases hv
theorem ltFB {h : AHeap} {a : Nat} {c : ACell} (hl : h.length ≤ FB) (hc : h[a]? = some c) : a < FB := Nat.lt_of_lt_of_le (List.getElem?_eq_some_iff.mp hc).1 hl
theorem RH.set {G : GX} {h : AHeap} {H H1 : Heap} {a : Nat} {c : ACell} (hRH : RH G h H) (hP : va_P G.1 vwCl ((wsO G h).set a (gB G + a, cE G c)) H1) : RH G (h.set a c) H1 := by
  refine ⟨by rw [List.length_set]; exact hRH.1, ?_⟩
  rw [← wsO_set]
  exact hP
theorem W.sz {p : Program} {l : Launch} {e : Env} {R : Room} {s : State} {m : MethodId} {args : Array Value} {below : List Frame} {meth : Method} {c : Code} {H : Heap} {locs : List Loc} {cells slots : Nat} {Q : State → Prop} {g : JFrame} (hk : H.size ≤ s.heap.size + cells → W p l e R s m args below meth c H locs cells slots Q g) : W p l e R s m args below meth c H locs cells slots Q g :=
  fun T hT X => hk (by rw [← hT]; exact X.heapSize) T hT X
section Rules2
variable {E : JE} {l : Launch} {G : GX} {k : Cd} {mc ms : Nat} {r : Option Value} {h' : AHeap} {β : Type} {M : Option β} {Z : β → Prop} {pc : Nat} {ls : List (Option Value)} {st : List Value} {h : AHeap} {kc ks : Nat}
theorem J_getI (ok : JOK E l G k mc ms r h') {a ci kf idx N : Nat} {C : String} {T : u_T} {f : Int32 → Option β} (hd : decode k.2.1 pc = .ok (.getfield idx, 3)) {pc' : Nat} (he : pc + 3 = pc') (hci : ¬ ci = 100) (hcl : vwCl[ci]? = some (C, T, N)) (hkf : kf < N) (hin : ∀ w ∈ u_ws C T N, w ∈ gw) (hlink : Cond.fieldLink k.1.cls idx (T kf).1 (T kf).2.1 (T kf).2.2.1 ∈ gw) (kk : ∀ x, J E k (f x) Z pc' ls (.int x :: st) h kc ks) : J E k ((gfI h a ci kf).bind f) Z pc ls (.ref a :: st) h kc ks := by
  subst he
  obtain ⟨p, l0, e, R, s, m, args, below, meth, c, G0, r0, h0, mc0, ms0⟩ := E
  obtain ⟨⟨rfl, rfl, rfl, rfl, rfl, rfl⟩, hR, hx, hb, hml, hr, hown, hts, hlk, hnm, hSF, hge⟩ := ok
  intro z hz hZ H locs la hsz hRH hS hl
  obtain ⟨x, hx1, hz⟩ := Option.bind_eq_some_iff.mp hz
  obtain ⟨ha, fs, h1, h2⟩ := gfV_spec (gfI_spec hx1) hci
  show W _ _ _ _ _ _ _ _ _ _ _ _ _ _ _ (F0 m pc la (.ref (gAd G0 a) :: st.map (vc G0)))
  rw [gAd_lt ha]
  exact va_get (D := G0.1) (cl := vwCl) (tys := tyL G0) (ws := wsO G0 h) (v := .int x) hx hb hts hin hown hSF.2.1 hRH.2 a (wsO_get h1) hcl kf hkf (hts _ hlink) (fun _ h => h) (by simp [cE, h2, vc]) hd (kk x z hz hZ H locs la hsz hRH hS hl)
theorem J_getR (ok : JOK E l G k mc ms r h') {a ci kf idx N : Nat} {C : String} {T : u_T} {f : Nat → Option β} (hd : decode k.2.1 pc = .ok (.getfield idx, 3)) {pc' : Nat} (he : pc + 3 = pc') (hci : ¬ ci = 100) (hcl : vwCl[ci]? = some (C, T, N)) (hkf : kf < N) (hin : ∀ w ∈ u_ws C T N, w ∈ gw) (hlink : Cond.fieldLink k.1.cls idx (T kf).1 (T kf).2.1 (T kf).2.2.1 ∈ gw) (kk : ∀ x, J E k (f x) Z pc' ls (.ref x :: st) h kc ks) : J E k ((gfR h a ci kf).bind f) Z pc ls (.ref a :: st) h kc ks := by
  subst he
  obtain ⟨p, l0, e, R, s, m, args, below, meth, c, G0, r0, h0, mc0, ms0⟩ := E
  obtain ⟨⟨rfl, rfl, rfl, rfl, rfl, rfl⟩, hR, hx, hb, hml, hr, hown, hts, hlk, hnm, hSF, hge⟩ := ok
  intro z hz hZ H locs la hsz hRH hS hl
  obtain ⟨x, hx1, hz⟩ := Option.bind_eq_some_iff.mp hz
  obtain ⟨ha, fs, h1, h2⟩ := gfV_spec (gfR_spec hx1) hci
  show W _ _ _ _ _ _ _ _ _ _ _ _ _ _ _ (F0 m pc la (.ref (gAd G0 a) :: st.map (vc G0)))
  rw [gAd_lt ha]
  exact va_get (D := G0.1) (cl := vwCl) (tys := tyL G0) (ws := wsO G0 h) (v := .ref (gAd G0 x)) hx hb hts hin hown hSF.2.1 hRH.2 a (wsO_get h1) hcl kf hkf (hts _ hlink) (fun _ h => h) (by simp [cE, h2, vc]) hd (kk x z hz hZ H locs la hsz hRH hS hl)
theorem pfV_spec {h h1 : AHeap} {a ci k : Nat} {v : Value} (hv : pfV h a ci k v = some h1) : ∃ fs, h[a]? = some (.inl (ci, fs)) ∧ k < fs.length ∧ h1 = h.set a (.inl (ci, fs.set k v)) := by
  unfold pfV at hv
  split at hv
  · rename_i o ho
    split at hv
    · rename_i hc
      cases hv
      exact ⟨o.2, by rw [ho, ← hc.1], hc.2, rfl⟩
    · cases hv
  · cases hv
theorem ald_spec {t : Nat} {h : AHeap} {a : Nat} {i x : Int32} (hv : ald t h a i = some x) : ∃ xs, cAt h a = some (.inr (.inl (t, xs))) ∧ ¬ i < 0 ∧ xs[i.toNatClampNeg]? = some x := by
  unfold ald at hv
  split at hv
  · rename_i q hq
    split at hv
    · rename_i hc
      exact ⟨q.2, by rw [hq, ← hc.1], hc.2, hv⟩
    · cases hv
  · cases hv
theorem ast_spec {t : Nat} {h h1 : AHeap} {a : Nat} {i x : Int32} (hv : ast t h a i x = some h1) : ∃ xs, h[a]? = some (.inr (.inl (t, xs))) ∧ ¬ i < 0 ∧ i.toNatClampNeg < xs.length ∧ h1 = h.set a (.inr (.inl (t, xs.set i.toNatClampNeg (nar t x)))) := by
  unfold ast at hv
  split at hv
  · rename_i q hq
    split at hv
    · rename_i hc
      cases hv
      exact ⟨q.2, by rw [hq, ← hc.1], hc.2.1, hc.2.2, rfl⟩
    · cases hv
  · cases hv
theorem updL {xs : List Int32} {i : Nat} {x : Int32} (hi : i < xs.length) : upd (fun j => xs.getD j 0) i x = fun j => (xs.set i x).getD j 0 := by
  funext j
  simp only [upd, List.getD_eq_getElem?_getD, List.getElem?_set]
  by_cases hj : j = i
  · subst hj; simp [hi]
  · have hj2 : ¬ i = j := fun e => hj e.symm
    rw [if_neg hj, if_neg hj2]
theorem vp_in_of2 {i : Int32} {n : Nat} (h1 : ¬ i < 0) (h2 : i.toNatClampNeg < n) : vp_in i n := fun q => q.elim h1 (fun z => absurd h2 (Nat.not_lt.mpr z))
theorem J_putI (ok : JOK E l G k mc ms r h') {a ci kf idx N : Nat} {C : String} {T : u_T} {x : Int32} {f : AHeap → Option β} (ty : Nat → FieldType) (hd : decode k.2.1 pc = .ok (.putfield idx, 3)) {pc' : Nat} (he : pc + 3 = pc') (hcl : vwCl[ci]? = some (C, T, N)) (hkf : kf < N) (hin : ∀ w ∈ u_ws C T N, w ∈ gw) (hty : ∀ j, j < N → parseFieldDescriptor (T j).2.2.1 = some (ty j)) (hnm2 : ∀ a, a < N → ∀ b, b < N → a ≠ b → (T a).2.1 ≠ (T b).2.1) (hint : ty kf = .int) (hfin : (T kf).2.2.2 = false) (hlink : Cond.fieldLink k.1.cls idx (T kf).1 (T kf).2.1 (T kf).2.2.1 ∈ gw) (kk : ∀ h1, h1.length = h.length → J E k (f h1) Z pc' ls st h1 kc ks) : J E k ((pfV h a ci kf (.int x)).bind f) Z pc ls (.int x :: .ref a :: st) h kc ks := by
  subst he
  obtain ⟨p, l0, e, R, s, m, args, below, meth, c, G0, r0, h0, mc0, ms0⟩ := E
  obtain ⟨⟨rfl, rfl, rfl, rfl, rfl, rfl⟩, hR, hx, hb, hml, hr, hown, hts, hlk, hnm, hSF, hge⟩ := ok
  intro z hz hZ H locs la hsz hRH hS hl
  obtain ⟨h1, hx1, hz⟩ := Option.bind_eq_some_iff.mp hz
  obtain ⟨fs, h2, h3, rfl⟩ := pfV_spec hx1
  show W _ _ _ _ _ _ _ _ _ _ _ _ _ _ _ (F0 m pc la (.int x :: .ref (gAd G0 a) :: st.map (vc G0)))
  rw [gAd_lt (ltFB hRH.1 h2)]
  refine va_put (D := G0.1) (cl := vwCl) (tys := tyL G0) (ws := wsO G0 h) (v := .int x) (ty := .int) hx hb hts hin ty hty hnm2 hown hSF.2.1 hRH.2 wsO_D hS a (wsO_get h2) hcl kf hkf (hts _ hlink) (fun _ h => h) hfin (by rw [← hint]; exact hty kf hkf) rfl rfl (by simpa using h3) hd (fun H1 locs1 hP1 hD1 hS1 => ?_)
  refine kk _ (by simp) z hz hZ H1 locs1 la (by simpa using hsz) (RH.set (c := .inl (ci, fs.set kf (.int x))) hRH ?_) hS1 hl
  simpa [cE, List.map_set, vc] using hP1
theorem bz_spec {x y : Int32} (h : bz x = some y) : x = y ∧ narrow .boolean (.int x) = .int x ∧ fits .boolean (.int x) = true := by
  unfold bz at h
  split at h
  · rename_i hc
    cases h
    rcases hc with rfl | rfl <;> exact ⟨rfl, by decide, by decide⟩
  · cases h
theorem J_putZ (ok : JOK E l G k mc ms r h') {a ci kf idx N : Nat} {C : String} {T : u_T} {x : Int32} {f : AHeap → Option β} (ty : Nat → FieldType) (hd : decode k.2.1 pc = .ok (.putfield idx, 3)) {pc' : Nat} (he : pc + 3 = pc') (hcl : vwCl[ci]? = some (C, T, N)) (hkf : kf < N) (hin : ∀ w ∈ u_ws C T N, w ∈ gw) (hty : ∀ j, j < N → parseFieldDescriptor (T j).2.2.1 = some (ty j)) (hnm2 : ∀ a, a < N → ∀ b, b < N → a ≠ b → (T a).2.1 ≠ (T b).2.1) (hint : ty kf = .boolean) (hfin : (T kf).2.2.2 = false) (hlink : Cond.fieldLink k.1.cls idx (T kf).1 (T kf).2.1 (T kf).2.2.1 ∈ gw) (kk : ∀ h1, h1.length = h.length → J E k (f h1) Z pc' ls st h1 kc ks) : J E k ((bz x).bind fun x => (pfV h a ci kf (.int x)).bind f) Z pc ls (.int x :: .ref a :: st) h kc ks := by
  subst he
  obtain ⟨p, l0, e, R, s, m, args, below, meth, c, G0, r0, h0, mc0, ms0⟩ := E
  obtain ⟨⟨rfl, rfl, rfl, rfl, rfl, rfl⟩, hR, hx, hb, hml, hr, hown, hts, hlk, hnm, hSF, hge⟩ := ok
  intro z hz hZ H locs la hsz hRH hS hl
  obtain ⟨y, hy, hz⟩ := Option.bind_eq_some_iff.mp hz
  obtain ⟨rfl, hn1, hn2⟩ := bz_spec hy
  obtain ⟨h1, hx1, hz⟩ := Option.bind_eq_some_iff.mp hz
  obtain ⟨fs, h2, h3, rfl⟩ := pfV_spec hx1
  show W _ _ _ _ _ _ _ _ _ _ _ _ _ _ _ (F0 m pc la (.int x :: .ref (gAd G0 a) :: st.map (vc G0)))
  rw [gAd_lt (ltFB hRH.1 h2)]
  refine va_put (D := G0.1) (cl := vwCl) (tys := tyL G0) (ws := wsO G0 h) (v := .int x) (ty := .boolean) hx hb hts hin ty hty hnm2 hown hSF.2.1 hRH.2 wsO_D hS a (wsO_get h2) hcl kf hkf (hts _ hlink) (fun _ h => h) hfin (by rw [← hint]; exact hty kf hkf) hn1 hn2 (by simpa using h3) hd (fun H1 locs1 hP1 hD1 hS1 => ?_)
  refine kk _ (by simp) z hz hZ H1 locs1 la (by simpa using hsz) (RH.set (c := .inl (ci, fs.set kf (.int x))) hRH ?_) hS1 hl
  simpa [cE, List.map_set, vc] using hP1
theorem fcell_int {a : Nat} {t : Nat} {xs : List Int32} (h : fcell a = some (.inr (.inl (t, xs)))) (ht : t = 0) : (a = 0 ∧ xs = [0, 0, 0, 4]) ∨ (a = 1 ∧ xs = [1, 9, 1000, 40]) := by
  subst ht
  unfold fcell at h
  split at h <;> first | (cases h; simp; done) | cases h
theorem J_iald (ok : JOK E l G k mc ms r h') {a : Nat} {i : Int32} {f : Int32 → Option β} (hd : decode k.2.1 pc = .ok (.iaload, 1)) {pc' : Nat} (he : pc + 1 = pc') (kk : ∀ x, J E k (f x) Z pc' ls (.int x :: st) h kc ks) : J E k ((ald 0 h a i).bind f) Z pc ls (.int i :: .ref a :: st) h kc ks := by
  subst he
  obtain ⟨p, l0, e, R, s, m, args, below, meth, c, G0, r0, h0, mc0, ms0⟩ := E
  obtain ⟨⟨rfl, rfl, rfl, rfl, rfl, rfl⟩, hR, hx, hb, hml, hr, hown, hts, hlk, hnm, hSF, hge⟩ := ok
  intro z hz hZ H locs la hsz hRH hS hl
  obtain ⟨x, hx1, hz⟩ := Option.bind_eq_some_iff.mp hz
  obtain ⟨xs, h1, h2, h3⟩ := ald_spec hx1
  have hlt : i.toNatClampNeg < xs.length := (List.getElem?_eq_some_iff.mp h3).1
  have hk := kk x z hz hZ H locs la hsz hRH hS hl
  show W _ _ _ _ _ _ _ _ _ _ _ _ _ _ _ (F0 m pc la (.int i :: .ref (gAd G0 a) :: st.map (vc G0)))
  unfold cAt at h1
  by_cases ha : a < FB
  · rw [if_pos ha] at h1
    rw [gAd_lt ha]
    have he : xs.getD i.toNatClampNeg 0 = x := by simp [h3]
    refine va_iald (D := G0.1) (cl := vwCl) (tys := tyL G0) (ws := wsO G0 h) (f := fun j => xs.getD j 0) hx hb hSF.2.1 hRH.2 a 0 (wsO_get h1) rfl (vp_in_of2 h2 hlt) hd ?_
    rw [he]
    exact hk
  · rw [if_neg ha] at h1
    rcases fcell_int h1 rfl with ⟨e1, rfl⟩ | ⟨e1, rfl⟩
    · have hA : gAd G0 a = gF G0 0 := by unfold gAd; rw [if_neg ha, e1]
      rw [hA]
      exact va_ti (N := 4) hx hb hSF.2.2.1.2 hS (vp_in_of2 h2 hlt) (v := .int x) (by simp [h3]) hd hk
    · have hA : gAd G0 a = gF G0 1 := by unfold gAd; rw [if_neg ha, e1]
      rw [hA]
      exact va_ti (N := 4) hx hb hSF.2.2.2.1.2 hS (vp_in_of2 h2 hlt) (v := .int x) (by simp [h3]) hd hk
theorem J_iast (ok : JOK E l G k mc ms r h') {a : Nat} {i x : Int32} {f : AHeap → Option β} (hd : decode k.2.1 pc = .ok (.iastore, 1)) {pc' : Nat} (he : pc + 1 = pc') (kk : ∀ h1, h1.length = h.length → J E k (f h1) Z pc' ls st h1 kc ks) : J E k ((ast 0 h a i x).bind f) Z pc ls (.int x :: .int i :: .ref a :: st) h kc ks := by
  subst he
  obtain ⟨p, l0, e, R, s, m, args, below, meth, c, G0, r0, h0, mc0, ms0⟩ := E
  obtain ⟨⟨rfl, rfl, rfl, rfl, rfl, rfl⟩, hR, hx, hb, hml, hr, hown, hts, hlk, hnm, hSF, hge⟩ := ok
  intro z hz hZ H locs la hsz hRH hS hl
  obtain ⟨h1, hx1, hz⟩ := Option.bind_eq_some_iff.mp hz
  obtain ⟨xs, h2, h3, h4, rfl⟩ := ast_spec hx1
  show W _ _ _ _ _ _ _ _ _ _ _ _ _ _ _ (F0 m pc la (.int x :: .int i :: .ref (gAd G0 a) :: st.map (vc G0)))
  rw [gAd_lt (ltFB hRH.1 h2)]
  refine va_iast (D := G0.1) (cl := vwCl) (tys := tyL G0) (ws := wsO G0 h) (f := fun j => xs.getD j 0) hx hb hSF.2.1 hRH.2 wsO_D hS a 0 (wsO_get h2) rfl (vp_in_of2 h3 h4) hd (fun H1 locs1 hP1 hD1 hS1 => ?_)
  refine kk _ (by simp) z hz hZ H1 locs1 la (by simpa using hsz) (RH.set (c := .inr (.inl (0, xs.set i.toNatClampNeg (nar 0 x)))) hRH ?_) hS1 hl
  rw [updL h4] at hP1
  simpa [cE, nar] using hP1
theorem fcell_no1 {a : Nat} {xs : List Int32} (h : fcell a = some (.inr (.inl (1, xs)))) : False := by
  unfold fcell at h
  split at h <;> cases h
theorem J_zald (ok : JOK E l G k mc ms r h') {a : Nat} {i : Int32} {f : Int32 → Option β} (hd : decode k.2.1 pc = .ok (.baload, 1)) {pc' : Nat} (he : pc + 1 = pc') (kk : ∀ x, J E k (f x) Z pc' ls (.int x :: st) h kc ks) : J E k ((ald 1 h a i).bind f) Z pc ls (.int i :: .ref a :: st) h kc ks := by
  subst he
  obtain ⟨p, l0, e, R, s, m, args, below, meth, c, G0, r0, h0, mc0, ms0⟩ := E
  obtain ⟨⟨rfl, rfl, rfl, rfl, rfl, rfl⟩, hR, hx, hb, hml, hr, hown, hts, hlk, hnm, hSF, hge⟩ := ok
  intro z hz hZ H locs la hsz hRH hS hl
  obtain ⟨x, hx1, hz⟩ := Option.bind_eq_some_iff.mp hz
  obtain ⟨xs, h1, h2, h3⟩ := ald_spec hx1
  have hlt : i.toNatClampNeg < xs.length := (List.getElem?_eq_some_iff.mp h3).1
  have hk := kk x z hz hZ H locs la hsz hRH hS hl
  show W _ _ _ _ _ _ _ _ _ _ _ _ _ _ _ (F0 m pc la (.int i :: .ref (gAd G0 a) :: st.map (vc G0)))
  unfold cAt at h1
  by_cases ha : a < FB
  · rw [if_pos ha] at h1
    rw [gAd_lt ha]
    have he : xs.getD i.toNatClampNeg 0 = x := by simp [h3]
    refine va_zald (D := G0.1) (cl := vwCl) (tys := tyL G0) (ws := wsO G0 h) (f := fun j => xs.getD j 0) hx hb hSF.2.1 hRH.2 a 1 (wsO_get h1) rfl (vp_in_of2 h2 hlt) hd ?_
    rw [he]
    exact hk
  · rw [if_neg ha] at h1
    exact (fcell_no1 h1).elim
theorem J_zast (ok : JOK E l G k mc ms r h') {a : Nat} {i x : Int32} {f : AHeap → Option β} (hd : decode k.2.1 pc = .ok (.bastore, 1)) {pc' : Nat} (he : pc + 1 = pc') (kk : ∀ h1, h1.length = h.length → J E k (f h1) Z pc' ls st h1 kc ks) : J E k ((ast 1 h a i x).bind f) Z pc ls (.int x :: .int i :: .ref a :: st) h kc ks := by
  subst he
  obtain ⟨p, l0, e, R, s, m, args, below, meth, c, G0, r0, h0, mc0, ms0⟩ := E
  obtain ⟨⟨rfl, rfl, rfl, rfl, rfl, rfl⟩, hR, hx, hb, hml, hr, hown, hts, hlk, hnm, hSF, hge⟩ := ok
  intro z hz hZ H locs la hsz hRH hS hl
  obtain ⟨h1, hx1, hz⟩ := Option.bind_eq_some_iff.mp hz
  obtain ⟨xs, h2, h3, h4, rfl⟩ := ast_spec hx1
  show W _ _ _ _ _ _ _ _ _ _ _ _ _ _ _ (F0 m pc la (.int x :: .int i :: .ref (gAd G0 a) :: st.map (vc G0)))
  rw [gAd_lt (ltFB hRH.1 h2)]
  refine va_zast (D := G0.1) (cl := vwCl) (tys := tyL G0) (ws := wsO G0 h) (f := fun j => xs.getD j 0) hx hb hSF.2.1 hRH.2 wsO_D hS a 1 (wsO_get h2) rfl (vp_in_of2 h3 h4) hd (fun H1 locs1 hP1 hD1 hS1 => ?_)
  refine kk _ (by simp) z hz hZ H1 locs1 la (by simpa using hsz) (RH.set (c := .inr (.inl (1, xs.set i.toNatClampNeg (nar 1 x)))) hRH ?_) hS1 hl
  rw [updL h4] at hP1
  simpa [cE, nar] using hP1
theorem J_bast (ok : JOK E l G k mc ms r h') {a : Nat} {i x : Int32} {f : AHeap → Option β} (hd : decode k.2.1 pc = .ok (.bastore, 1)) {pc' : Nat} (he : pc + 1 = pc') (kk : ∀ h1, h1.length = h.length → J E k (f h1) Z pc' ls st h1 kc ks) : J E k ((ast 2 h a i x).bind f) Z pc ls (.int x :: .int i :: .ref a :: st) h kc ks := by
  subst he
  obtain ⟨p, l0, e, R, s, m, args, below, meth, c, G0, r0, h0, mc0, ms0⟩ := E
  obtain ⟨⟨rfl, rfl, rfl, rfl, rfl, rfl⟩, hR, hx, hb, hml, hr, hown, hts, hlk, hnm, hSF, hge⟩ := ok
  intro z hz hZ H locs la hsz hRH hS hl
  obtain ⟨h1, hx1, hz⟩ := Option.bind_eq_some_iff.mp hz
  obtain ⟨xs, h2, h3, h4, rfl⟩ := ast_spec hx1
  show W _ _ _ _ _ _ _ _ _ _ _ _ _ _ _ (F0 m pc la (.int x :: .int i :: .ref (gAd G0 a) :: st.map (vc G0)))
  rw [gAd_lt (ltFB hRH.1 h2)]
  refine va_bast (D := G0.1) (cl := vwCl) (tys := tyL G0) (ws := wsO G0 h) (f := fun j => xs.getD j 0) hx hb hSF.2.1 hRH.2 wsO_D hS a 2 (wsO_get h2) rfl (vp_in_of2 h3 h4) hd (fun H1 locs1 hP1 hD1 hS1 => ?_)
  refine kk _ (by simp) z hz hZ H1 locs1 la (by simpa using hsz) (RH.set (c := .inr (.inl (2, xs.set i.toNatClampNeg (nar 2 x)))) hRH ?_) hS1 hl
  rw [updL h4] at hP1
  simpa [cE, nar] using hP1
end Rules2
