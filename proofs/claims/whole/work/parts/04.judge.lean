def n32 (r : UInt32) : Option UInt32 := if r &&& 0x7fffffff ≤ 0x7f800000 then some r else none
def n64 (r : UInt64) : Option UInt64 := if r &&& 0x7fffffffffffffff ≤ 0x7ff0000000000000 then some r else none
theorem n32_spec {r w : UInt32} (h : n32 r = some w) : vf_n32 r ∧ r = w := by
  unfold n32 at h
  split at h
  · exact ⟨‹_›, Option.some.inj h⟩
  · cases h
theorem n64_spec {r w : UInt64} (h : n64 r = some w) : vf_n64 r ∧ r = w := by
  unfold n64 at h
  split at h
  · exact ⟨‹_›, Option.some.inj h⟩
  · cases h
/-! the judgement: from this state of a method's frame the machine comes to its end, if the shallow program says so -/
def QC (G : GX) (r : Option Value) (h' : AHeap) (n : Nat) : Array Value → State → Outcome → State → Prop := match r with
  | none => va_Qv (fun _ : Unit => True) (fun _ t => RH G h' t.heap ∧ t.heap.size = gB G + h'.length ∧ h'.length = n) (gA G)
  | some (.int x) => va_Qi (fun y (_ : Unit) => y = x) (fun _ t => RH G h' t.heap ∧ t.heap.size = gB G + h'.length ∧ h'.length = n) (gA G)
  | some (.long x) => va_Ql (fun y (_ : Unit) => y = x) (fun _ t => RH G h' t.heap ∧ t.heap.size = gB G + h'.length ∧ h'.length = n) (gA G)
  | some (.float x) => va_Qf (fun y (_ : Unit) => y = x) (fun _ t => RH G h' t.heap ∧ t.heap.size = gB G + h'.length ∧ h'.length = n) (gA G)
  | some (.double x) => va_Qd (fun y (_ : Unit) => y = x) (fun _ t => RH G h' t.heap ∧ t.heap.size = gB G + h'.length ∧ h'.length = n) (gA G)
  | _ => fun _ _ _ _ => False
def PC (G : GX) (av : List Value) (h : AHeap) : Array Value → State → Prop := va_Pc (av.map (vc G)) (fun U => U.heap.size = gB G + h.length ∧ RH G h U.heap ∧ SF G U U.heap)
/-- a method: name, code, locals, answer, frames and locals of its room -/
abbrev Cd : Type := MethodName × ByteArray × Nat × Option FieldType × Nat × Nat
def cdW (k : Cd) : List Cond := .code k.1 k.2.1 k.2.2.1 k.2.2.2.1 :: gw
def cdR (k : Cd) (mc ms : Nat) : Room := { frames := k.2.2.2.2.1, cells := mc, slots := ms, locals := k.2.2.2.2.2 }
def CT (l : Launch) (G : GX) (k : Cd) (mc ms : Nat) (av : List Value) (h : AHeap) (r : Option Value) (h' : AHeap) : Prop :=
  Met l k.1 (cdW k) (cdR k mc ms) (PC G av h) (QC G r h' (h.length + mc)) mc ms (gA G)
abbrev JE : Type := Program × Launch × Env × Room × State × MethodId × Array Value × List Frame × Method × Code × GX × Option Value × AHeap × Nat × Nat
def LV (G : GX) (la : Array Slot) (nL : Nat) (ls : List (Option Value)) : Prop := la.size = nL ∧ lv_wf la ∧ ∀ (i : Nat) (v : Value), ls[i]? = some (some v) → la[i]? = some (.val (vc G v))
def JW (E : JE) (k : Cd) (pc : Nat) (ls : List (Option Value)) (st : List Value) (h : AHeap) (kc ks : Nat) : Prop := match E with
  | (p, l, e, R, s, m, args, below, meth, c, G, r, h', mc, ms) => ∀ (H : Heap) (locs : List Loc) (la : Array Slot), s.heap.size + kc = gB G + h.length → RH G h H → va_S (gA G) s.heap H locs → LV G la k.2.2.1 ls →
    W p l e R s m args below meth c H locs kc ks (MQ below (QC G r h' (s.heap.size - gB G + mc)) args s mc ms (gA G)) (F0 m pc la (st.map (vc G)))
def J {β : Type} (E : JE) (k : Cd) (M : Option β) (Z : β → Prop) (pc : Nat) (ls : List (Option Value)) (st : List Value) (h : AHeap) (kc ks : Nat) : Prop := ∀ x, M = some x → Z x → JW E k pc ls st h kc ks
def JOK (E : JE) (l : Launch) (G : GX) (k : Cd) (mc ms : Nat) (r : Option Value) (h' : AHeap) : Prop := match E with
  | (p, l0, e, R, s, m, args, below, meth, c, G0, r0, h0, mc0, ms0) => (l0 = l ∧ G0 = G ∧ mc0 = mc ∧ ms0 = ms ∧ r0 = r ∧ h0 = h') ∧ R = cdR k mc ms ∧ p.tables.exec = Jvm.exec ∧ c.code = k.2.1 ∧ c.maxLocals = k.2.2.1 ∧ meth.sig.returnType = k.2.2.2.1 ∧ s.vm.findClass k.1.cls = some m.cls ∧ (∀ w ∈ gw, w.before args s = true) ∧ meth.locks = false ∧ meth.name = k.1.name ∧ SF G s s.heap ∧ gB G ≤ s.heap.size
def lsOf (av : List Value) : List (Option Value) := av.flatMap (fun v => if v.category = 2 then [some v, none] else [some v])
theorem vc_cat {G : GX} (hG : G.2.2.2.2.category = 1) (v : Value) : (vc G v).category = v.category := by
  cases v <;> first | rfl | exact hG
theorem lsOf_at {G : GX} (hG : G.2.2.2.2.category = 1) : ∀ (av : List Value) (i : Nat) (v : Value), (lsOf av)[i]? = some (some v) → (lg_sl (av.map (vc G)))[i]? = some (.val (vc G v))
  | [], i, v, h => by simp [lsOf] at h
  | a :: av, i, v, h => by
    have ih := lsOf_at hG av
    simp only [lsOf, lg_sl, List.flatMap_cons, List.map_cons, vc_cat hG] at h ih ⊢
    by_cases hc : a.category = 2
    · simp only [hc, if_true] at h ⊢
      match i, h with
      | 0, h => simp at h; subst h; rfl
      | 1, h => simp at h
      | i + 2, h => simp at h ⊢; exact ih i v h
    · simp only [hc, if_false] at h ⊢
      match i, h with
      | 0, h => simp at h; subst h; rfl
      | i + 1, h => simp at h ⊢; exact ih i v h
theorem CT.ofJ {l : Launch} {G : GX} {k : Cd} {mc ms : Nat} {av : List Value} {h : AHeap} {r : Option Value} {h' : AHeap} (hy : plainFor k.1 = true) (hlen : (lsOf av).length ≤ k.2.2.1) (hJ : ∀ E, JOK E l G k mc ms r h' → JW E k 0 (lsOf av) [] h 0 0) : CT l G k mc ms av h r h' := by
  refine va_MetF (cc := k.2.1) (maxL := k.2.2.1) (ret := k.2.2.2.1) hy rfl ?_
  intro p e s m args below meth c s₁ B hml hv
  obtain ⟨rfl, hsz, hRH, hSF⟩ := hv
  have hts := atoms_spec (ws := cdW k) B.pre
  have hlen2 : (lg_sl (av.map (vc G))).length ≤ k.2.2.1 := by
    have e : (lg_sl (av.map (vc G))).length = (lsOf av).length := by
      clear hlen hJ hRH hts B hsz
      induction av with
      | nil => rfl
      | cons a av ih =>
        simp only [lsOf, lg_sl, List.flatMap_cons, List.map_cons, vc_cat hSF.1, List.length_append] at ih ⊢
        rw [ih]
        by_cases hc : a.category = 2 <;> simp [hc]
    omega
  have hge : gB G ≤ s.heap.size := by rw [hsz]; exact Nat.le_add_right _ _
  have hk := hJ (p, l, e, cdR k mc ms, s, m, (av.map (vc G)).toArray, below, meth, c, G, r, h', mc, ms) ⟨⟨rfl, rfl, rfl, rfl, rfl, rfl⟩, rfl, B.exec, B.bytes, hml, B.returns, findClass_of_methodNamed B.named, fun w hw => hts w (List.mem_cons_of_mem _ hw), B.notSynchronized, (name_of_methodNamed B.named B.method).1, hSF, hge⟩
  rw [lg_entry_eq]
  have hl := lv_entry (av.map (vc G)) (n := k.2.2.1) hlen2
  have hn : s.heap.size - gB G + mc = h.length + mc := by omega
  rw [← hn]
  refine hk s.heap [] _ hsz hRH va_S.rf ⟨hl.1, hl.2.1, fun i v hi => ?_⟩
  have h1 := lsOf_at hSF.1 av i v hi
  have h2 : i < (lg_sl (av.map (vc G))).length := (List.getElem?_eq_some_iff.mp h1).1
  simp only [List.getElem?_toArray]
  rw [List.getElem?_append_left h2]
  exact h1
/-! stores into locals -/
def okSt (ls : List (Option Value)) (i : Nat) : Bool := match i with
  | 0 => true
  | j + 1 => match ls[j]? with
    | some (some (.long _)) => false
    | some (some (.double _)) => false
    | some (some (.retAddr _)) => false
    | _ => true
def lcv (G : GX) (ls : List (Option Value)) : List (Nat × Value) := (List.range ls.length).filterMap (fun i => match ls[i]? with
  | some (some v) => some (i, vc G v)
  | _ => none)
theorem lcv_mem {G : GX} {ls : List (Option Value)} {i : Nat} {v : Value} (h : ls[i]? = some (some v)) : (i, vc G v) ∈ lcv G ls := by
  refine List.mem_filterMap.mpr ⟨i, List.mem_range.mpr (List.getElem?_eq_some_iff.mp h).1, ?_⟩
  simp [h]
theorem LV.has {G : GX} {la : Array Slot} {nL : Nat} {ls : List (Option Value)} (h : LV G la nL ls) : lv_has la nL (lcv G ls) := by
  refine ⟨h.1, h.2.1, fun q hq => ?_⟩
  obtain ⟨i, hi, hq⟩ := List.mem_filterMap.mp hq
  split at hq
  · rename_i v hv
    cases hq
    exact h.2.2 i v hv
  · cases hq
theorem LV.st1 {G : GX} {la : Array Slot} {nL i : Nat} {v : Value} {ls : List (Option Value)} (hG : G.2.2.2.2.category = 1) (hok : okSt ls i = true) (h : lv_has la nL ((i, vc G v) :: (lcv G ls).filter (fun q => !(q.1 == i) && !(q.1 + 1 == i && q.2.category == 2)))) : LV G la nL (ls.set i (some v)) := by
  refine ⟨h.1, h.2.1, fun j w hj => ?_⟩
  rw [List.getElem?_set] at hj
  by_cases hij : i = j
  · subst hij
    rw [if_pos rfl] at hj
    split at hj
    · cases hj
      exact h.2.2 (i, vc G v) List.mem_cons_self
    · cases hj
  · rw [if_neg hij] at hj
    refine h.2.2 (j, vc G w) (List.mem_cons_of_mem _ (List.mem_filter.mpr ⟨lcv_mem hj, ?_⟩))
    have h1 : ¬ j = i := fun e => hij e.symm
    by_cases h2 : j + 1 = i
    · subst h2
      have h3 : (vc G w).category = w.category := vc_cat hG w
      simp only [okSt, hj] at hok
      simp only [beq_eq_false_iff_ne.mpr h1, h3]
      cases w <;> simp_all [Value.category]
    · simp [h1, h2]
theorem LV.st2 {G : GX} {la : Array Slot} {nL i : Nat} {v : Value} {ls : List (Option Value)} (hG : G.2.2.2.2.category = 1) (hok : okSt ls i = true) (h : lv_has la nL ((i, vc G v) :: (lcv G ls).filter (fun q => !(q.1 == i) && (!(q.1 == i + 1) && !(q.1 + 1 == i && q.2.category == 2))))) : LV G la nL ((ls.set i (some v)).set (i + 1) none) := by
  refine ⟨h.1, h.2.1, fun j w hj => ?_⟩
  rw [List.getElem?_set] at hj
  by_cases hij1 : i + 1 = j
  · rw [if_pos hij1] at hj
    split at hj <;> cases hj
  rw [if_neg hij1, List.getElem?_set] at hj
  by_cases hij : i = j
  · subst hij
    rw [if_pos rfl] at hj
    split at hj
    · cases hj
      exact h.2.2 (i, vc G v) List.mem_cons_self
    · cases hj
  · rw [if_neg hij] at hj
    refine h.2.2 (j, vc G w) (List.mem_cons_of_mem _ (List.mem_filter.mpr ⟨lcv_mem hj, ?_⟩))
    have h1 : ¬ j = i := fun e => hij e.symm
    have h1' : ¬ j = i + 1 := fun e => hij1 e.symm
    by_cases h2 : j + 1 = i
    · subst h2
      have h3 : (vc G w).category = w.category := vc_cat hG w
      simp only [okSt, hj] at hok
      simp only [beq_eq_false_iff_ne.mpr h1, beq_eq_false_iff_ne.mpr h1', h3]
      cases w <;> simp_all [Value.category]
    · simp [h1, h1', h2]
section Rules
variable {E : JE} {l : Launch} {G : GX} {k : Cd} {mc ms : Nat} {r : Option Value} {h' : AHeap} {β : Type} {M : Option β} {Z : β → Prop} {pc : Nat} {ls : List (Option Value)} {st : List Value} {h : AHeap} {kc ks : Nat}
theorem J_iconst (ok : JOK E l G k mc ms r h') {n : Int} {v : Int32} (hd : decode k.2.1 pc = .ok (.iconst n, 1)) {pc' : Nat} (he : pc + 1 = pc') (hv : Int32.ofInt n = v) (kk : J E k M Z pc' ls (.int v :: st) h kc ks) : J E k M Z pc ls (st) h kc ks := by
  subst he
  obtain ⟨p, l0, e, R, s, m, args, below, meth, c, G0, r0, h0, mc0, ms0⟩ := E
  obtain ⟨⟨rfl, rfl, rfl, rfl, rfl, rfl⟩, hR, hx, hb, hml, hr, hown, hts, hlk, hnm, hSF, hge⟩ := ok
  intro z hz hZ H locs la hsz hRH hS hl
  exact lv_iconst hx hb hd hv (kk z hz hZ H locs la hsz hRH hS hl)
theorem J_bipush (ok : JOK E l G k mc ms r h') {n : Int} {v : Int32} (hd : decode k.2.1 pc = .ok (.bipush n, 2)) {pc' : Nat} (he : pc + 2 = pc') (hv : (Int8.ofInt n).toInt32 = v) (kk : J E k M Z pc' ls (.int v :: st) h kc ks) : J E k M Z pc ls (st) h kc ks := by
  subst he
  obtain ⟨p, l0, e, R, s, m, args, below, meth, c, G0, r0, h0, mc0, ms0⟩ := E
  obtain ⟨⟨rfl, rfl, rfl, rfl, rfl, rfl⟩, hR, hx, hb, hml, hr, hown, hts, hlk, hnm, hSF, hge⟩ := ok
  intro z hz hZ H locs la hsz hRH hS hl
  exact lv_bipush hx hb hd hv (kk z hz hZ H locs la hsz hRH hS hl)
theorem J_sipush (ok : JOK E l G k mc ms r h') {n : Int} {v : Int32} (hd : decode k.2.1 pc = .ok (.sipush n, 3)) {pc' : Nat} (he : pc + 3 = pc') (hv : (Int16.ofInt n).toInt32 = v) (kk : J E k M Z pc' ls (.int v :: st) h kc ks) : J E k M Z pc ls (st) h kc ks := by
  subst he
  obtain ⟨p, l0, e, R, s, m, args, below, meth, c, G0, r0, h0, mc0, ms0⟩ := E
  obtain ⟨⟨rfl, rfl, rfl, rfl, rfl, rfl⟩, hR, hx, hb, hml, hr, hown, hts, hlk, hnm, hSF, hge⟩ := ok
  intro z hz hZ H locs la hsz hRH hS hl
  exact lv_sipush hx hb hd hv (kk z hz hZ H locs la hsz hRH hS hl)
theorem J_lconst (ok : JOK E l G k mc ms r h') {n : Fin 2} {v : Int64} (hd : decode k.2.1 pc = .ok (.lconst n, 1)) {pc' : Nat} (he : pc + 1 = pc') (hv : Int64.ofNat (n : Nat) = v) (kk : J E k M Z pc' ls (.long v :: st) h kc ks) : J E k M Z pc ls (st) h kc ks := by
  subst he
  obtain ⟨p, l0, e, R, s, m, args, below, meth, c, G0, r0, h0, mc0, ms0⟩ := E
  obtain ⟨⟨rfl, rfl, rfl, rfl, rfl, rfl⟩, hR, hx, hb, hml, hr, hown, hts, hlk, hnm, hSF, hge⟩ := ok
  intro z hz hZ H locs la hsz hRH hS hl
  exact lv_lconst hx hb hd hv (kk z hz hZ H locs la hsz hRH hS hl)
theorem J_fconst0 (ok : JOK E l G k mc ms r h')  (hd : decode k.2.1 pc = .ok (.fconst 0, 1)) {pc' : Nat} (he : pc + 1 = pc')  (kk : J E k M Z pc' ls (.float FP.fconst0 :: st) h kc ks) : J E k M Z pc ls (st) h kc ks := by
  subst he
  obtain ⟨p, l0, e, R, s, m, args, below, meth, c, G0, r0, h0, mc0, ms0⟩ := E
  obtain ⟨⟨rfl, rfl, rfl, rfl, rfl, rfl⟩, hR, hx, hb, hml, hr, hown, hts, hlk, hnm, hSF, hge⟩ := ok
  intro z hz hZ H locs la hsz hRH hS hl
  exact lv_fconst0 hx hb hd (kk z hz hZ H locs la hsz hRH hS hl)
theorem J_fconst1 (ok : JOK E l G k mc ms r h')  (hd : decode k.2.1 pc = .ok (.fconst 1, 1)) {pc' : Nat} (he : pc + 1 = pc')  (kk : J E k M Z pc' ls (.float FP.fconst1 :: st) h kc ks) : J E k M Z pc ls (st) h kc ks := by
  subst he
  obtain ⟨p, l0, e, R, s, m, args, below, meth, c, G0, r0, h0, mc0, ms0⟩ := E
  obtain ⟨⟨rfl, rfl, rfl, rfl, rfl, rfl⟩, hR, hx, hb, hml, hr, hown, hts, hlk, hnm, hSF, hge⟩ := ok
  intro z hz hZ H locs la hsz hRH hS hl
  exact lv_fconst1 hx hb hd (kk z hz hZ H locs la hsz hRH hS hl)
theorem J_fconst2 (ok : JOK E l G k mc ms r h')  (hd : decode k.2.1 pc = .ok (.fconst 2, 1)) {pc' : Nat} (he : pc + 1 = pc')  (kk : J E k M Z pc' ls (.float FP.fconst2 :: st) h kc ks) : J E k M Z pc ls (st) h kc ks := by
  subst he
  obtain ⟨p, l0, e, R, s, m, args, below, meth, c, G0, r0, h0, mc0, ms0⟩ := E
  obtain ⟨⟨rfl, rfl, rfl, rfl, rfl, rfl⟩, hR, hx, hb, hml, hr, hown, hts, hlk, hnm, hSF, hge⟩ := ok
  intro z hz hZ H locs la hsz hRH hS hl
  exact lv_fconst2 hx hb hd (kk z hz hZ H locs la hsz hRH hS hl)
theorem J_dconst0 (ok : JOK E l G k mc ms r h')  (hd : decode k.2.1 pc = .ok (.dconst 0, 1)) {pc' : Nat} (he : pc + 1 = pc')  (kk : J E k M Z pc' ls (.double FP.dconst0 :: st) h kc ks) : J E k M Z pc ls (st) h kc ks := by
  subst he
  obtain ⟨p, l0, e, R, s, m, args, below, meth, c, G0, r0, h0, mc0, ms0⟩ := E
  obtain ⟨⟨rfl, rfl, rfl, rfl, rfl, rfl⟩, hR, hx, hb, hml, hr, hown, hts, hlk, hnm, hSF, hge⟩ := ok
  intro z hz hZ H locs la hsz hRH hS hl
  exact lv_dconst0 hx hb hd (kk z hz hZ H locs la hsz hRH hS hl)
theorem J_dconst1 (ok : JOK E l G k mc ms r h')  (hd : decode k.2.1 pc = .ok (.dconst 1, 1)) {pc' : Nat} (he : pc + 1 = pc')  (kk : J E k M Z pc' ls (.double FP.dconst1 :: st) h kc ks) : J E k M Z pc ls (st) h kc ks := by
  subst he
  obtain ⟨p, l0, e, R, s, m, args, below, meth, c, G0, r0, h0, mc0, ms0⟩ := E
  obtain ⟨⟨rfl, rfl, rfl, rfl, rfl, rfl⟩, hR, hx, hb, hml, hr, hown, hts, hlk, hnm, hSF, hge⟩ := ok
  intro z hz hZ H locs la hsz hRH hS hl
  exact lv_dconst1 hx hb hd (kk z hz hZ H locs la hsz hRH hS hl)
theorem J_ldc (ok : JOK E l G k mc ms r h') {i : Nat} {v : Int32} (hd : decode k.2.1 pc = .ok (.ldc i, 2)) {pc' : Nat} (he : pc + 2 = pc') (hc : Cond.constant k.1.cls i v ∈ gw) (kk : J E k M Z pc' ls (.int v :: st) h kc ks) : J E k M Z pc ls (st) h kc ks := by
  subst he
  obtain ⟨p, l0, e, R, s, m, args, below, meth, c, G0, r0, h0, mc0, ms0⟩ := E
  obtain ⟨⟨rfl, rfl, rfl, rfl, rfl, rfl⟩, hR, hx, hb, hml, hr, hown, hts, hlk, hnm, hSF, hge⟩ := ok
  intro z hz hZ H locs la hsz hRH hS hl
  exact lv_ldc hx hb hown (hts _ hc) hd (kk z hz hZ H locs la hsz hRH hS hl)
theorem J_ldcf (ok : JOK E l G k mc ms r h') {i : Nat} {v : UInt32} (hd : decode k.2.1 pc = .ok (.ldc i, 2)) {pc' : Nat} (he : pc + 2 = pc') (hc : Cond.constantFloat k.1.cls i v ∈ gw) (kk : J E k M Z pc' ls (.float v :: st) h kc ks) : J E k M Z pc ls (st) h kc ks := by
  subst he
  obtain ⟨p, l0, e, R, s, m, args, below, meth, c, G0, r0, h0, mc0, ms0⟩ := E
  obtain ⟨⟨rfl, rfl, rfl, rfl, rfl, rfl⟩, hR, hx, hb, hml, hr, hown, hts, hlk, hnm, hSF, hge⟩ := ok
  intro z hz hZ H locs la hsz hRH hS hl
  exact lv_ldcf hx hb hown (hts _ hc) hd (kk z hz hZ H locs la hsz hRH hS hl)
theorem J_ldc2l (ok : JOK E l G k mc ms r h') {i : Nat} {v : Int64} (hd : decode k.2.1 pc = .ok (.ldc2_w i, 3)) {pc' : Nat} (he : pc + 3 = pc') (hc : Cond.constantLong k.1.cls i v ∈ gw) (kk : J E k M Z pc' ls (.long v :: st) h kc ks) : J E k M Z pc ls (st) h kc ks := by
  subst he
  obtain ⟨p, l0, e, R, s, m, args, below, meth, c, G0, r0, h0, mc0, ms0⟩ := E
  obtain ⟨⟨rfl, rfl, rfl, rfl, rfl, rfl⟩, hR, hx, hb, hml, hr, hown, hts, hlk, hnm, hSF, hge⟩ := ok
  intro z hz hZ H locs la hsz hRH hS hl
  exact lv_ldc2 hx hb hown (hts _ hc) hd (kk z hz hZ H locs la hsz hRH hS hl)
theorem J_ldc2d (ok : JOK E l G k mc ms r h') {i : Nat} {v : UInt64} (hd : decode k.2.1 pc = .ok (.ldc2_w i, 3)) {pc' : Nat} (he : pc + 3 = pc') (hc : Cond.constantDouble k.1.cls i v ∈ gw) (kk : J E k M Z pc' ls (.double v :: st) h kc ks) : J E k M Z pc ls (st) h kc ks := by
  subst he
  obtain ⟨p, l0, e, R, s, m, args, below, meth, c, G0, r0, h0, mc0, ms0⟩ := E
  obtain ⟨⟨rfl, rfl, rfl, rfl, rfl, rfl⟩, hR, hx, hb, hml, hr, hown, hts, hlk, hnm, hSF, hge⟩ := ok
  intro z hz hZ H locs la hsz hRH hS hl
  exact lv_ldc2d hx hb hown (hts _ hc) hd (kk z hz hZ H locs la hsz hRH hS hl)
theorem J_iload_n (ok : JOK E l G k mc ms r h') {n : Fin 4} {i : Nat} {x : Int32} (hd : decode k.2.1 pc = .ok (.iload_n n, 1)) {pc' : Nat} (he : pc + 1 = pc') (hi : (n : Nat) = i) (hv : ls[i]? = some (some (.int x))) (kk : J E k M Z pc' ls (.int x :: st) h kc ks) : J E k M Z pc ls (st) h kc ks := by
  subst he
  obtain ⟨p, l0, e, R, s, m, args, below, meth, c, G0, r0, h0, mc0, ms0⟩ := E
  obtain ⟨⟨rfl, rfl, rfl, rfl, rfl, rfl⟩, hR, hx, hb, hml, hr, hown, hts, hlk, hnm, hSF, hge⟩ := ok
  intro z hz hZ H locs la hsz hRH hS hl
  exact lv_iload_n hx hb hd hi (hl.2.2 _ _ hv) (kk z hz hZ H locs la hsz hRH hS hl)
theorem J_iload (ok : JOK E l G k mc ms r h') {i : Nat} {x : Int32} (hd : decode k.2.1 pc = .ok (.iload i, 2)) {pc' : Nat} (he : pc + 2 = pc') (hv : ls[i]? = some (some (.int x))) (kk : J E k M Z pc' ls (.int x :: st) h kc ks) : J E k M Z pc ls (st) h kc ks := by
  subst he
  obtain ⟨p, l0, e, R, s, m, args, below, meth, c, G0, r0, h0, mc0, ms0⟩ := E
  obtain ⟨⟨rfl, rfl, rfl, rfl, rfl, rfl⟩, hR, hx, hb, hml, hr, hown, hts, hlk, hnm, hSF, hge⟩ := ok
  intro z hz hZ H locs la hsz hRH hS hl
  exact lv_iload hx hb hd (hl.2.2 _ _ hv) (kk z hz hZ H locs la hsz hRH hS hl)
theorem J_lload_n (ok : JOK E l G k mc ms r h') {n : Fin 4} {i : Nat} {x : Int64} (hd : decode k.2.1 pc = .ok (.lload_n n, 1)) {pc' : Nat} (he : pc + 1 = pc') (hi : (n : Nat) = i) (hv : ls[i]? = some (some (.long x))) (kk : J E k M Z pc' ls (.long x :: st) h kc ks) : J E k M Z pc ls (st) h kc ks := by
  subst he
  obtain ⟨p, l0, e, R, s, m, args, below, meth, c, G0, r0, h0, mc0, ms0⟩ := E
  obtain ⟨⟨rfl, rfl, rfl, rfl, rfl, rfl⟩, hR, hx, hb, hml, hr, hown, hts, hlk, hnm, hSF, hge⟩ := ok
  intro z hz hZ H locs la hsz hRH hS hl
  exact lv_lload_n hx hb hd hi (hl.2.2 _ _ hv) (kk z hz hZ H locs la hsz hRH hS hl)
theorem J_lload (ok : JOK E l G k mc ms r h') {i : Nat} {x : Int64} (hd : decode k.2.1 pc = .ok (.lload i, 2)) {pc' : Nat} (he : pc + 2 = pc') (hv : ls[i]? = some (some (.long x))) (kk : J E k M Z pc' ls (.long x :: st) h kc ks) : J E k M Z pc ls (st) h kc ks := by
  subst he
  obtain ⟨p, l0, e, R, s, m, args, below, meth, c, G0, r0, h0, mc0, ms0⟩ := E
  obtain ⟨⟨rfl, rfl, rfl, rfl, rfl, rfl⟩, hR, hx, hb, hml, hr, hown, hts, hlk, hnm, hSF, hge⟩ := ok
  intro z hz hZ H locs la hsz hRH hS hl
  exact lv_lload hx hb hd (hl.2.2 _ _ hv) (kk z hz hZ H locs la hsz hRH hS hl)
theorem J_fload_n (ok : JOK E l G k mc ms r h') {n : Fin 4} {i : Nat} {x : UInt32} (hd : decode k.2.1 pc = .ok (.fload_n n, 1)) {pc' : Nat} (he : pc + 1 = pc') (hi : (n : Nat) = i) (hv : ls[i]? = some (some (.float x))) (kk : J E k M Z pc' ls (.float x :: st) h kc ks) : J E k M Z pc ls (st) h kc ks := by
  subst he
  obtain ⟨p, l0, e, R, s, m, args, below, meth, c, G0, r0, h0, mc0, ms0⟩ := E
  obtain ⟨⟨rfl, rfl, rfl, rfl, rfl, rfl⟩, hR, hx, hb, hml, hr, hown, hts, hlk, hnm, hSF, hge⟩ := ok
  intro z hz hZ H locs la hsz hRH hS hl
  exact lv_fload_n hx hb hd hi (hl.2.2 _ _ hv) (kk z hz hZ H locs la hsz hRH hS hl)
theorem J_fload (ok : JOK E l G k mc ms r h') {i : Nat} {x : UInt32} (hd : decode k.2.1 pc = .ok (.fload i, 2)) {pc' : Nat} (he : pc + 2 = pc') (hv : ls[i]? = some (some (.float x))) (kk : J E k M Z pc' ls (.float x :: st) h kc ks) : J E k M Z pc ls (st) h kc ks := by
  subst he
  obtain ⟨p, l0, e, R, s, m, args, below, meth, c, G0, r0, h0, mc0, ms0⟩ := E
  obtain ⟨⟨rfl, rfl, rfl, rfl, rfl, rfl⟩, hR, hx, hb, hml, hr, hown, hts, hlk, hnm, hSF, hge⟩ := ok
  intro z hz hZ H locs la hsz hRH hS hl
  exact lv_fload hx hb hd (hl.2.2 _ _ hv) (kk z hz hZ H locs la hsz hRH hS hl)
theorem J_dload_n (ok : JOK E l G k mc ms r h') {n : Fin 4} {i : Nat} {x : UInt64} (hd : decode k.2.1 pc = .ok (.dload_n n, 1)) {pc' : Nat} (he : pc + 1 = pc') (hi : (n : Nat) = i) (hv : ls[i]? = some (some (.double x))) (kk : J E k M Z pc' ls (.double x :: st) h kc ks) : J E k M Z pc ls (st) h kc ks := by
  subst he
  obtain ⟨p, l0, e, R, s, m, args, below, meth, c, G0, r0, h0, mc0, ms0⟩ := E
  obtain ⟨⟨rfl, rfl, rfl, rfl, rfl, rfl⟩, hR, hx, hb, hml, hr, hown, hts, hlk, hnm, hSF, hge⟩ := ok
  intro z hz hZ H locs la hsz hRH hS hl
  exact lv_dload_n hx hb hd hi (hl.2.2 _ _ hv) (kk z hz hZ H locs la hsz hRH hS hl)
theorem J_dload (ok : JOK E l G k mc ms r h') {i : Nat} {x : UInt64} (hd : decode k.2.1 pc = .ok (.dload i, 2)) {pc' : Nat} (he : pc + 2 = pc') (hv : ls[i]? = some (some (.double x))) (kk : J E k M Z pc' ls (.double x :: st) h kc ks) : J E k M Z pc ls (st) h kc ks := by
  subst he
  obtain ⟨p, l0, e, R, s, m, args, below, meth, c, G0, r0, h0, mc0, ms0⟩ := E
  obtain ⟨⟨rfl, rfl, rfl, rfl, rfl, rfl⟩, hR, hx, hb, hml, hr, hown, hts, hlk, hnm, hSF, hge⟩ := ok
  intro z hz hZ H locs la hsz hRH hS hl
  exact lv_dload hx hb hd (hl.2.2 _ _ hv) (kk z hz hZ H locs la hsz hRH hS hl)
theorem J_aload_n (ok : JOK E l G k mc ms r h') {n : Fin 4} {i x : Nat} (hd : decode k.2.1 pc = .ok (.aload_n n, 1)) {pc' : Nat} (he : pc + 1 = pc') (hi : (n : Nat) = i) (hv : ls[i]? = some (some (.ref x))) (kk : J E k M Z pc' ls (.ref x :: st) h kc ks) : J E k M Z pc ls (st) h kc ks := by
  subst he
  obtain ⟨p, l0, e, R, s, m, args, below, meth, c, G0, r0, h0, mc0, ms0⟩ := E
  obtain ⟨⟨rfl, rfl, rfl, rfl, rfl, rfl⟩, hR, hx, hb, hml, hr, hown, hts, hlk, hnm, hSF, hge⟩ := ok
  intro z hz hZ H locs la hsz hRH hS hl
  exact lv_aload_n hx hb hd hi (hl.2.2 _ _ hv) (kk z hz hZ H locs la hsz hRH hS hl)
theorem J_aload (ok : JOK E l G k mc ms r h') {i x : Nat} (hd : decode k.2.1 pc = .ok (.aload i, 2)) {pc' : Nat} (he : pc + 2 = pc') (hv : ls[i]? = some (some (.ref x))) (kk : J E k M Z pc' ls (.ref x :: st) h kc ks) : J E k M Z pc ls (st) h kc ks := by
  subst he
  obtain ⟨p, l0, e, R, s, m, args, below, meth, c, G0, r0, h0, mc0, ms0⟩ := E
  obtain ⟨⟨rfl, rfl, rfl, rfl, rfl, rfl⟩, hR, hx, hb, hml, hr, hown, hts, hlk, hnm, hSF, hge⟩ := ok
  intro z hz hZ H locs la hsz hRH hS hl
  exact lv_aload hx hb hd (hl.2.2 _ _ hv) (kk z hz hZ H locs la hsz hRH hS hl)
theorem J_istore_n (ok : JOK E l G k mc ms r h') {n : Fin 4} {i : Nat} {x : Int32} {ls' : List (Option Value)} (hd : decode k.2.1 pc = .ok (.istore_n n, 1)) {pc' : Nat} (he : pc + 1 = pc') (hi : (n : Nat) = i) (hn : i < k.2.2.1) (ho : okSt ls i = true) (he : ls.set i (some (.int x)) = ls') (kk : J E k M Z pc' ls' st h kc ks) : J E k M Z pc ls (.int x :: st) h kc ks := by
  subst he
  obtain ⟨p, l0, e, R, s, m, args, below, meth, c, G0, r0, h0, mc0, ms0⟩ := E
  obtain ⟨⟨rfl, rfl, rfl, rfl, rfl, rfl⟩, hR, hx, hb, hml, hr, hown, hts, hlk, hnm, hSF, hge⟩ := ok
  intro z hz hZ H locs la hsz hRH hS hl
  subst he
  exact lv_istore_n (i := i) hx hb hd hi hl.has hn rfl (fun la' hl' => kk z hz hZ H locs la' hsz hRH hS (LV.st1 (v := .int x) hSF.1 ho hl'))
theorem J_istore (ok : JOK E l G k mc ms r h')  {i : Nat} {x : Int32} {ls' : List (Option Value)} (hd : decode k.2.1 pc = .ok (.istore i, 2)) {pc' : Nat} (he : pc + 2 = pc')  (hn : i < k.2.2.1) (ho : okSt ls i = true) (he : ls.set i (some (.int x)) = ls') (kk : J E k M Z pc' ls' st h kc ks) : J E k M Z pc ls (.int x :: st) h kc ks := by
  subst he
  obtain ⟨p, l0, e, R, s, m, args, below, meth, c, G0, r0, h0, mc0, ms0⟩ := E
  obtain ⟨⟨rfl, rfl, rfl, rfl, rfl, rfl⟩, hR, hx, hb, hml, hr, hown, hts, hlk, hnm, hSF, hge⟩ := ok
  intro z hz hZ H locs la hsz hRH hS hl
  subst he
  exact lv_istore (i := i) hx hb hd hl.has hn rfl (fun la' hl' => kk z hz hZ H locs la' hsz hRH hS (LV.st1 (v := .int x) hSF.1 ho hl'))
theorem J_fstore_n (ok : JOK E l G k mc ms r h') {n : Fin 4} {i : Nat} {x : UInt32} {ls' : List (Option Value)} (hd : decode k.2.1 pc = .ok (.fstore_n n, 1)) {pc' : Nat} (he : pc + 1 = pc') (hi : (n : Nat) = i) (hn : i < k.2.2.1) (ho : okSt ls i = true) (he : ls.set i (some (.float x)) = ls') (kk : J E k M Z pc' ls' st h kc ks) : J E k M Z pc ls (.float x :: st) h kc ks := by
  subst he
  obtain ⟨p, l0, e, R, s, m, args, below, meth, c, G0, r0, h0, mc0, ms0⟩ := E
  obtain ⟨⟨rfl, rfl, rfl, rfl, rfl, rfl⟩, hR, hx, hb, hml, hr, hown, hts, hlk, hnm, hSF, hge⟩ := ok
  intro z hz hZ H locs la hsz hRH hS hl
  subst he
  exact lv_fstore_n (i := i) hx hb hd hi hl.has hn rfl (fun la' hl' => kk z hz hZ H locs la' hsz hRH hS (LV.st1 (v := .float x) hSF.1 ho hl'))
theorem J_fstore (ok : JOK E l G k mc ms r h')  {i : Nat} {x : UInt32} {ls' : List (Option Value)} (hd : decode k.2.1 pc = .ok (.fstore i, 2)) {pc' : Nat} (he : pc + 2 = pc')  (hn : i < k.2.2.1) (ho : okSt ls i = true) (he : ls.set i (some (.float x)) = ls') (kk : J E k M Z pc' ls' st h kc ks) : J E k M Z pc ls (.float x :: st) h kc ks := by
  subst he
  obtain ⟨p, l0, e, R, s, m, args, below, meth, c, G0, r0, h0, mc0, ms0⟩ := E
  obtain ⟨⟨rfl, rfl, rfl, rfl, rfl, rfl⟩, hR, hx, hb, hml, hr, hown, hts, hlk, hnm, hSF, hge⟩ := ok
  intro z hz hZ H locs la hsz hRH hS hl
  subst he
  exact lv_fstore (i := i) hx hb hd hl.has hn rfl (fun la' hl' => kk z hz hZ H locs la' hsz hRH hS (LV.st1 (v := .float x) hSF.1 ho hl'))
theorem J_astore_n (ok : JOK E l G k mc ms r h') {n : Fin 4} {i : Nat} {x : Nat} {ls' : List (Option Value)} (hd : decode k.2.1 pc = .ok (.astore_n n, 1)) {pc' : Nat} (he : pc + 1 = pc') (hi : (n : Nat) = i) (hn : i < k.2.2.1) (ho : okSt ls i = true) (he : ls.set i (some (.ref x)) = ls') (kk : J E k M Z pc' ls' st h kc ks) : J E k M Z pc ls (.ref x :: st) h kc ks := by
  subst he
  obtain ⟨p, l0, e, R, s, m, args, below, meth, c, G0, r0, h0, mc0, ms0⟩ := E
  obtain ⟨⟨rfl, rfl, rfl, rfl, rfl, rfl⟩, hR, hx, hb, hml, hr, hown, hts, hlk, hnm, hSF, hge⟩ := ok
  intro z hz hZ H locs la hsz hRH hS hl
  subst he
  exact lv_astore_n (i := i) hx hb hd hi hl.has hn rfl (fun la' hl' => kk z hz hZ H locs la' hsz hRH hS (LV.st1 (v := .ref x) hSF.1 ho hl'))
theorem J_astore (ok : JOK E l G k mc ms r h')  {i : Nat} {x : Nat} {ls' : List (Option Value)} (hd : decode k.2.1 pc = .ok (.astore i, 2)) {pc' : Nat} (he : pc + 2 = pc')  (hn : i < k.2.2.1) (ho : okSt ls i = true) (he : ls.set i (some (.ref x)) = ls') (kk : J E k M Z pc' ls' st h kc ks) : J E k M Z pc ls (.ref x :: st) h kc ks := by
  subst he
  obtain ⟨p, l0, e, R, s, m, args, below, meth, c, G0, r0, h0, mc0, ms0⟩ := E
  obtain ⟨⟨rfl, rfl, rfl, rfl, rfl, rfl⟩, hR, hx, hb, hml, hr, hown, hts, hlk, hnm, hSF, hge⟩ := ok
  intro z hz hZ H locs la hsz hRH hS hl
  subst he
  exact lv_astore (i := i) hx hb hd hl.has hn rfl (fun la' hl' => kk z hz hZ H locs la' hsz hRH hS (LV.st1 (v := .ref x) hSF.1 ho hl'))
theorem J_lstore_n (ok : JOK E l G k mc ms r h') {n : Fin 4} {i : Nat} {x : Int64} {ls' : List (Option Value)} (hd : decode k.2.1 pc = .ok (.lstore_n n, 1)) {pc' : Nat} (he : pc + 1 = pc') (hi : (n : Nat) = i) (hn : i + 1 < k.2.2.1) (ho : okSt ls i = true) (he : (ls.set i (some (.long x))).set (i + 1) none = ls') (kk : J E k M Z pc' ls' st h kc ks) : J E k M Z pc ls (.long x :: st) h kc ks := by
  subst he
  obtain ⟨p, l0, e, R, s, m, args, below, meth, c, G0, r0, h0, mc0, ms0⟩ := E
  obtain ⟨⟨rfl, rfl, rfl, rfl, rfl, rfl⟩, hR, hx, hb, hml, hr, hown, hts, hlk, hnm, hSF, hge⟩ := ok
  intro z hz hZ H locs la hsz hRH hS hl
  subst he
  exact lv_lstore_n (i := i) hx hb hd hi hl.has hn rfl (fun la' hl' => kk z hz hZ H locs la' hsz hRH hS (LV.st2 (v := .long x) hSF.1 ho hl'))
theorem J_lstore (ok : JOK E l G k mc ms r h')  {i : Nat} {x : Int64} {ls' : List (Option Value)} (hd : decode k.2.1 pc = .ok (.lstore i, 2)) {pc' : Nat} (he : pc + 2 = pc')  (hn : i + 1 < k.2.2.1) (ho : okSt ls i = true) (he : (ls.set i (some (.long x))).set (i + 1) none = ls') (kk : J E k M Z pc' ls' st h kc ks) : J E k M Z pc ls (.long x :: st) h kc ks := by
  subst he
  obtain ⟨p, l0, e, R, s, m, args, below, meth, c, G0, r0, h0, mc0, ms0⟩ := E
  obtain ⟨⟨rfl, rfl, rfl, rfl, rfl, rfl⟩, hR, hx, hb, hml, hr, hown, hts, hlk, hnm, hSF, hge⟩ := ok
  intro z hz hZ H locs la hsz hRH hS hl
  subst he
  exact lv_lstore (i := i) hx hb hd hl.has hn rfl (fun la' hl' => kk z hz hZ H locs la' hsz hRH hS (LV.st2 (v := .long x) hSF.1 ho hl'))
theorem J_dstore_n (ok : JOK E l G k mc ms r h') {n : Fin 4} {i : Nat} {x : UInt64} {ls' : List (Option Value)} (hd : decode k.2.1 pc = .ok (.dstore_n n, 1)) {pc' : Nat} (he : pc + 1 = pc') (hi : (n : Nat) = i) (hn : i + 1 < k.2.2.1) (ho : okSt ls i = true) (he : (ls.set i (some (.double x))).set (i + 1) none = ls') (kk : J E k M Z pc' ls' st h kc ks) : J E k M Z pc ls (.double x :: st) h kc ks := by
  subst he
  obtain ⟨p, l0, e, R, s, m, args, below, meth, c, G0, r0, h0, mc0, ms0⟩ := E
  obtain ⟨⟨rfl, rfl, rfl, rfl, rfl, rfl⟩, hR, hx, hb, hml, hr, hown, hts, hlk, hnm, hSF, hge⟩ := ok
  intro z hz hZ H locs la hsz hRH hS hl
  subst he
  exact lv_dstore_n (i := i) hx hb hd hi hl.has hn rfl (fun la' hl' => kk z hz hZ H locs la' hsz hRH hS (LV.st2 (v := .double x) hSF.1 ho hl'))
theorem J_dstore (ok : JOK E l G k mc ms r h')  {i : Nat} {x : UInt64} {ls' : List (Option Value)} (hd : decode k.2.1 pc = .ok (.dstore i, 2)) {pc' : Nat} (he : pc + 2 = pc')  (hn : i + 1 < k.2.2.1) (ho : okSt ls i = true) (he : (ls.set i (some (.double x))).set (i + 1) none = ls') (kk : J E k M Z pc' ls' st h kc ks) : J E k M Z pc ls (.double x :: st) h kc ks := by
  subst he
  obtain ⟨p, l0, e, R, s, m, args, below, meth, c, G0, r0, h0, mc0, ms0⟩ := E
  obtain ⟨⟨rfl, rfl, rfl, rfl, rfl, rfl⟩, hR, hx, hb, hml, hr, hown, hts, hlk, hnm, hSF, hge⟩ := ok
  intro z hz hZ H locs la hsz hRH hS hl
  subst he
  exact lv_dstore (i := i) hx hb hd hl.has hn rfl (fun la' hl' => kk z hz hZ H locs la' hsz hRH hS (LV.st2 (v := .double x) hSF.1 ho hl'))
theorem lcv_at {G : GX} {ls : List (Option Value)} {i : Nat} {v : Value} (h : ls[i]? = some (some v)) : ∃ j : Nat, (lcv G ls)[j]? = some (i, vc G v) := by
  obtain ⟨j, hj, he⟩ := List.getElem_of_mem (lcv_mem (G := G) h)
  exact ⟨j, by rw [List.getElem?_eq_getElem hj, he]⟩
theorem J_iinc (ok : JOK E l G k mc ms r h') {i : Nat} {n : Int} {x v : Int32} {ls' : List (Option Value)} (hd : decode k.2.1 pc = .ok (.iinc i n, 3)) {pc' : Nat} (he : pc + 3 = pc') (hv : ls[i]? = some (some (.int x))) (hx2 : x + Int32.ofInt n = v) (hn : i < k.2.2.1) (ho : okSt ls i = true) (he : ls.set i (some (.int v)) = ls') (kk : J E k M Z pc' ls' st h kc ks) : J E k M Z pc ls st h kc ks := by
  subst he
  obtain ⟨p, l0, e, R, s, m, args, below, meth, c, G0, r0, h0, mc0, ms0⟩ := E
  obtain ⟨⟨rfl, rfl, rfl, rfl, rfl, rfl⟩, hR, hx, hb, hml, hr, hown, hts, hlk, hnm, hSF, hge⟩ := ok
  intro z hz hZ H locs la hsz hRH hS hl
  subst he
  obtain ⟨j, hj⟩ := lcv_at (G := G0) hv
  exact lv_iinc (i := i) (v := v) hx hb hd hl.has hj hx2 hn rfl (fun la' hl' => kk z hz hZ H locs la' hsz hRH hS (LV.st1 (v := .int v) hSF.1 ho hl'))
theorem J_iadd (ok : JOK E l G k mc ms r h') {x y : Int32} (hd : decode k.2.1 pc = .ok (.iadd, 1)) {pc' : Nat} (he : pc + 1 = pc')  (kk : J E k M Z pc' ls (.int (x + y) :: st) h kc ks) : J E k M Z pc ls (.int y :: .int x :: st) h kc ks := by
  subst he
  obtain ⟨p, l0, e, R, s, m, args, below, meth, c, G0, r0, h0, mc0, ms0⟩ := E
  obtain ⟨⟨rfl, rfl, rfl, rfl, rfl, rfl⟩, hR, hx, hb, hml, hr, hown, hts, hlk, hnm, hSF, hge⟩ := ok
  intro z hz hZ H locs la hsz hRH hS hl
  exact lv_iadd hx hb hd (kk z hz hZ H locs la hsz hRH hS hl)
theorem J_isub (ok : JOK E l G k mc ms r h') {x y : Int32} (hd : decode k.2.1 pc = .ok (.isub, 1)) {pc' : Nat} (he : pc + 1 = pc')  (kk : J E k M Z pc' ls (.int (x - y) :: st) h kc ks) : J E k M Z pc ls (.int y :: .int x :: st) h kc ks := by
  subst he
  obtain ⟨p, l0, e, R, s, m, args, below, meth, c, G0, r0, h0, mc0, ms0⟩ := E
  obtain ⟨⟨rfl, rfl, rfl, rfl, rfl, rfl⟩, hR, hx, hb, hml, hr, hown, hts, hlk, hnm, hSF, hge⟩ := ok
  intro z hz hZ H locs la hsz hRH hS hl
  exact lv_isub hx hb hd (kk z hz hZ H locs la hsz hRH hS hl)
theorem J_imul (ok : JOK E l G k mc ms r h') {x y : Int32} (hd : decode k.2.1 pc = .ok (.imul, 1)) {pc' : Nat} (he : pc + 1 = pc')  (kk : J E k M Z pc' ls (.int (x * y) :: st) h kc ks) : J E k M Z pc ls (.int y :: .int x :: st) h kc ks := by
  subst he
  obtain ⟨p, l0, e, R, s, m, args, below, meth, c, G0, r0, h0, mc0, ms0⟩ := E
  obtain ⟨⟨rfl, rfl, rfl, rfl, rfl, rfl⟩, hR, hx, hb, hml, hr, hown, hts, hlk, hnm, hSF, hge⟩ := ok
  intro z hz hZ H locs la hsz hRH hS hl
  exact lv_imul hx hb hd (kk z hz hZ H locs la hsz hRH hS hl)
theorem J_iand (ok : JOK E l G k mc ms r h') {x y : Int32} (hd : decode k.2.1 pc = .ok (.iand, 1)) {pc' : Nat} (he : pc + 1 = pc')  (kk : J E k M Z pc' ls (.int (x &&& y) :: st) h kc ks) : J E k M Z pc ls (.int y :: .int x :: st) h kc ks := by
  subst he
  obtain ⟨p, l0, e, R, s, m, args, below, meth, c, G0, r0, h0, mc0, ms0⟩ := E
  obtain ⟨⟨rfl, rfl, rfl, rfl, rfl, rfl⟩, hR, hx, hb, hml, hr, hown, hts, hlk, hnm, hSF, hge⟩ := ok
  intro z hz hZ H locs la hsz hRH hS hl
  exact lv_iand hx hb hd (kk z hz hZ H locs la hsz hRH hS hl)
theorem J_ior (ok : JOK E l G k mc ms r h') {x y : Int32} (hd : decode k.2.1 pc = .ok (.ior, 1)) {pc' : Nat} (he : pc + 1 = pc')  (kk : J E k M Z pc' ls (.int (x ||| y) :: st) h kc ks) : J E k M Z pc ls (.int y :: .int x :: st) h kc ks := by
  subst he
  obtain ⟨p, l0, e, R, s, m, args, below, meth, c, G0, r0, h0, mc0, ms0⟩ := E
  obtain ⟨⟨rfl, rfl, rfl, rfl, rfl, rfl⟩, hR, hx, hb, hml, hr, hown, hts, hlk, hnm, hSF, hge⟩ := ok
  intro z hz hZ H locs la hsz hRH hS hl
  exact lv_ior hx hb hd (kk z hz hZ H locs la hsz hRH hS hl)
theorem J_ixor (ok : JOK E l G k mc ms r h') {x y : Int32} (hd : decode k.2.1 pc = .ok (.ixor, 1)) {pc' : Nat} (he : pc + 1 = pc')  (kk : J E k M Z pc' ls (.int (x ^^^ y) :: st) h kc ks) : J E k M Z pc ls (.int y :: .int x :: st) h kc ks := by
  subst he
  obtain ⟨p, l0, e, R, s, m, args, below, meth, c, G0, r0, h0, mc0, ms0⟩ := E
  obtain ⟨⟨rfl, rfl, rfl, rfl, rfl, rfl⟩, hR, hx, hb, hml, hr, hown, hts, hlk, hnm, hSF, hge⟩ := ok
  intro z hz hZ H locs la hsz hRH hS hl
  exact lv_ixor hx hb hd (kk z hz hZ H locs la hsz hRH hS hl)
theorem J_ishl (ok : JOK E l G k mc ms r h') {x y : Int32} (hd : decode k.2.1 pc = .ok (.ishl, 1)) {pc' : Nat} (he : pc + 1 = pc')  (kk : J E k M Z pc' ls (.int (x <<< (y &&& 31)) :: st) h kc ks) : J E k M Z pc ls (.int y :: .int x :: st) h kc ks := by
  subst he
  obtain ⟨p, l0, e, R, s, m, args, below, meth, c, G0, r0, h0, mc0, ms0⟩ := E
  obtain ⟨⟨rfl, rfl, rfl, rfl, rfl, rfl⟩, hR, hx, hb, hml, hr, hown, hts, hlk, hnm, hSF, hge⟩ := ok
  intro z hz hZ H locs la hsz hRH hS hl
  exact lv_ishl hx hb hd (kk z hz hZ H locs la hsz hRH hS hl)
theorem J_ishr (ok : JOK E l G k mc ms r h') {x y : Int32} (hd : decode k.2.1 pc = .ok (.ishr, 1)) {pc' : Nat} (he : pc + 1 = pc')  (kk : J E k M Z pc' ls (.int (x >>> (y &&& 31)) :: st) h kc ks) : J E k M Z pc ls (.int y :: .int x :: st) h kc ks := by
  subst he
  obtain ⟨p, l0, e, R, s, m, args, below, meth, c, G0, r0, h0, mc0, ms0⟩ := E
  obtain ⟨⟨rfl, rfl, rfl, rfl, rfl, rfl⟩, hR, hx, hb, hml, hr, hown, hts, hlk, hnm, hSF, hge⟩ := ok
  intro z hz hZ H locs la hsz hRH hS hl
  exact lv_ishr hx hb hd (kk z hz hZ H locs la hsz hRH hS hl)
theorem J_irem (ok : JOK E l G k mc ms r h') {x y : Int32} (hd : decode k.2.1 pc = .ok (.irem, 1)) {pc' : Nat} (he : pc + 1 = pc') (hne : ¬ y = 0) (kk : J E k M Z pc' ls (.int (x - x / y * y) :: st) h kc ks) : J E k M Z pc ls (.int y :: .int x :: st) h kc ks := by
  subst he
  obtain ⟨p, l0, e, R, s, m, args, below, meth, c, G0, r0, h0, mc0, ms0⟩ := E
  obtain ⟨⟨rfl, rfl, rfl, rfl, rfl, rfl⟩, hR, hx, hb, hml, hr, hown, hts, hlk, hnm, hSF, hge⟩ := ok
  intro z hz hZ H locs la hsz hRH hS hl
  exact lv_irem hx hb hd hne (kk z hz hZ H locs la hsz hRH hS hl)
theorem J_ineg (ok : JOK E l G k mc ms r h') {x : Int32} (hd : decode k.2.1 pc = .ok (.ineg, 1)) {pc' : Nat} (he : pc + 1 = pc')  (kk : J E k M Z pc' ls (.int (-x) :: st) h kc ks) : J E k M Z pc ls (.int x :: st) h kc ks := by
  subst he
  obtain ⟨p, l0, e, R, s, m, args, below, meth, c, G0, r0, h0, mc0, ms0⟩ := E
  obtain ⟨⟨rfl, rfl, rfl, rfl, rfl, rfl⟩, hR, hx, hb, hml, hr, hown, hts, hlk, hnm, hSF, hge⟩ := ok
  intro z hz hZ H locs la hsz hRH hS hl
  exact lv_ineg hx hb hd (kk z hz hZ H locs la hsz hRH hS hl)
theorem J_ladd (ok : JOK E l G k mc ms r h') {x y : Int64} (hd : decode k.2.1 pc = .ok (.ladd, 1)) {pc' : Nat} (he : pc + 1 = pc')  (kk : J E k M Z pc' ls (.long (x + y) :: st) h kc ks) : J E k M Z pc ls (.long y :: .long x :: st) h kc ks := by
  subst he
  obtain ⟨p, l0, e, R, s, m, args, below, meth, c, G0, r0, h0, mc0, ms0⟩ := E
  obtain ⟨⟨rfl, rfl, rfl, rfl, rfl, rfl⟩, hR, hx, hb, hml, hr, hown, hts, hlk, hnm, hSF, hge⟩ := ok
  intro z hz hZ H locs la hsz hRH hS hl
  exact lv_ladd hx hb hd (kk z hz hZ H locs la hsz hRH hS hl)
theorem J_lsub (ok : JOK E l G k mc ms r h') {x y : Int64} (hd : decode k.2.1 pc = .ok (.lsub, 1)) {pc' : Nat} (he : pc + 1 = pc')  (kk : J E k M Z pc' ls (.long (x - y) :: st) h kc ks) : J E k M Z pc ls (.long y :: .long x :: st) h kc ks := by
  subst he
  obtain ⟨p, l0, e, R, s, m, args, below, meth, c, G0, r0, h0, mc0, ms0⟩ := E
  obtain ⟨⟨rfl, rfl, rfl, rfl, rfl, rfl⟩, hR, hx, hb, hml, hr, hown, hts, hlk, hnm, hSF, hge⟩ := ok
  intro z hz hZ H locs la hsz hRH hS hl
  exact lv_lsub hx hb hd (kk z hz hZ H locs la hsz hRH hS hl)
theorem J_land (ok : JOK E l G k mc ms r h') {x y : Int64} (hd : decode k.2.1 pc = .ok (.land, 1)) {pc' : Nat} (he : pc + 1 = pc')  (kk : J E k M Z pc' ls (.long (x &&& y) :: st) h kc ks) : J E k M Z pc ls (.long y :: .long x :: st) h kc ks := by
  subst he
  obtain ⟨p, l0, e, R, s, m, args, below, meth, c, G0, r0, h0, mc0, ms0⟩ := E
  obtain ⟨⟨rfl, rfl, rfl, rfl, rfl, rfl⟩, hR, hx, hb, hml, hr, hown, hts, hlk, hnm, hSF, hge⟩ := ok
  intro z hz hZ H locs la hsz hRH hS hl
  exact lv_land hx hb hd (kk z hz hZ H locs la hsz hRH hS hl)
theorem J_lor (ok : JOK E l G k mc ms r h') {x y : Int64} (hd : decode k.2.1 pc = .ok (.lor, 1)) {pc' : Nat} (he : pc + 1 = pc')  (kk : J E k M Z pc' ls (.long (x ||| y) :: st) h kc ks) : J E k M Z pc ls (.long y :: .long x :: st) h kc ks := by
  subst he
  obtain ⟨p, l0, e, R, s, m, args, below, meth, c, G0, r0, h0, mc0, ms0⟩ := E
  obtain ⟨⟨rfl, rfl, rfl, rfl, rfl, rfl⟩, hR, hx, hb, hml, hr, hown, hts, hlk, hnm, hSF, hge⟩ := ok
  intro z hz hZ H locs la hsz hRH hS hl
  exact lv_lor hx hb hd (kk z hz hZ H locs la hsz hRH hS hl)
theorem J_lshl (ok : JOK E l G k mc ms r h') {x : Int64} {y : Int32} (hd : decode k.2.1 pc = .ok (.lshl, 1)) {pc' : Nat} (he : pc + 1 = pc')  (kk : J E k M Z pc' ls (.long (x <<< (y.toInt64 &&& 63)) :: st) h kc ks) : J E k M Z pc ls (.int y :: .long x :: st) h kc ks := by
  subst he
  obtain ⟨p, l0, e, R, s, m, args, below, meth, c, G0, r0, h0, mc0, ms0⟩ := E
  obtain ⟨⟨rfl, rfl, rfl, rfl, rfl, rfl⟩, hR, hx, hb, hml, hr, hown, hts, hlk, hnm, hSF, hge⟩ := ok
  intro z hz hZ H locs la hsz hRH hS hl
  exact lv_lshl hx hb hd rfl (kk z hz hZ H locs la hsz hRH hS hl)
theorem J_i2l (ok : JOK E l G k mc ms r h') {x : Int32} (hd : decode k.2.1 pc = .ok (.i2l, 1)) {pc' : Nat} (he : pc + 1 = pc')  (kk : J E k M Z pc' ls (.long x.toInt64 :: st) h kc ks) : J E k M Z pc ls (.int x :: st) h kc ks := by
  subst he
  obtain ⟨p, l0, e, R, s, m, args, below, meth, c, G0, r0, h0, mc0, ms0⟩ := E
  obtain ⟨⟨rfl, rfl, rfl, rfl, rfl, rfl⟩, hR, hx, hb, hml, hr, hown, hts, hlk, hnm, hSF, hge⟩ := ok
  intro z hz hZ H locs la hsz hRH hS hl
  exact lv_i2l hx hb hd rfl (kk z hz hZ H locs la hsz hRH hS hl)
theorem J_i2b (ok : JOK E l G k mc ms r h') {x : Int32} (hd : decode k.2.1 pc = .ok (.i2b, 1)) {pc' : Nat} (he : pc + 1 = pc')  (kk : J E k M Z pc' ls (.int x.toInt8.toInt32 :: st) h kc ks) : J E k M Z pc ls (.int x :: st) h kc ks := by
  subst he
  obtain ⟨p, l0, e, R, s, m, args, below, meth, c, G0, r0, h0, mc0, ms0⟩ := E
  obtain ⟨⟨rfl, rfl, rfl, rfl, rfl, rfl⟩, hR, hx, hb, hml, hr, hown, hts, hlk, hnm, hSF, hge⟩ := ok
  intro z hz hZ H locs la hsz hRH hS hl
  exact lv_i2b hx hb hd rfl (kk z hz hZ H locs la hsz hRH hS hl)
theorem J_i2c (ok : JOK E l G k mc ms r h') {x : Int32} (hd : decode k.2.1 pc = .ok (.i2c, 1)) {pc' : Nat} (he : pc + 1 = pc')  (kk : J E k M Z pc' ls (.int (x.toUInt32 % 65536).toInt32 :: st) h kc ks) : J E k M Z pc ls (.int x :: st) h kc ks := by
  subst he
  obtain ⟨p, l0, e, R, s, m, args, below, meth, c, G0, r0, h0, mc0, ms0⟩ := E
  obtain ⟨⟨rfl, rfl, rfl, rfl, rfl, rfl⟩, hR, hx, hb, hml, hr, hown, hts, hlk, hnm, hSF, hge⟩ := ok
  intro z hz hZ H locs la hsz hRH hS hl
  exact lv_i2c hx hb hd rfl (kk z hz hZ H locs la hsz hRH hS hl)
theorem J_i2f (ok : JOK E l G k mc ms r h') {x : Int32} (hd : decode k.2.1 pc = .ok (.i2f, 1)) {pc' : Nat} (he : pc + 1 = pc')  (kk : J E k M Z pc' ls (.float (FP.i2f x) :: st) h kc ks) : J E k M Z pc ls (.int x :: st) h kc ks := by
  subst he
  obtain ⟨p, l0, e, R, s, m, args, below, meth, c, G0, r0, h0, mc0, ms0⟩ := E
  obtain ⟨⟨rfl, rfl, rfl, rfl, rfl, rfl⟩, hR, hx, hb, hml, hr, hown, hts, hlk, hnm, hSF, hge⟩ := ok
  intro z hz hZ H locs la hsz hRH hS hl
  exact lv_i2f hx hb hd (kk z hz hZ H locs la hsz hRH hS hl)
theorem J_i2d (ok : JOK E l G k mc ms r h') {x : Int32} (hd : decode k.2.1 pc = .ok (.i2d, 1)) {pc' : Nat} (he : pc + 1 = pc')  (kk : J E k M Z pc' ls (.double (FP.i2d x) :: st) h kc ks) : J E k M Z pc ls (.int x :: st) h kc ks := by
  subst he
  obtain ⟨p, l0, e, R, s, m, args, below, meth, c, G0, r0, h0, mc0, ms0⟩ := E
  obtain ⟨⟨rfl, rfl, rfl, rfl, rfl, rfl⟩, hR, hx, hb, hml, hr, hown, hts, hlk, hnm, hSF, hge⟩ := ok
  intro z hz hZ H locs la hsz hRH hS hl
  exact lv_i2d hx hb hd (kk z hz hZ H locs la hsz hRH hS hl)
theorem J_f2i (ok : JOK E l G k mc ms r h') {x : UInt32} (hd : decode k.2.1 pc = .ok (.f2i, 1)) {pc' : Nat} (he : pc + 1 = pc')  (kk : J E k M Z pc' ls (.int (FP.f2i x) :: st) h kc ks) : J E k M Z pc ls (.float x :: st) h kc ks := by
  subst he
  obtain ⟨p, l0, e, R, s, m, args, below, meth, c, G0, r0, h0, mc0, ms0⟩ := E
  obtain ⟨⟨rfl, rfl, rfl, rfl, rfl, rfl⟩, hR, hx, hb, hml, hr, hown, hts, hlk, hnm, hSF, hge⟩ := ok
  intro z hz hZ H locs la hsz hRH hS hl
  exact lv_f2i hx hb hd (kk z hz hZ H locs la hsz hRH hS hl)
theorem J_d2l (ok : JOK E l G k mc ms r h') {x : UInt64} (hd : decode k.2.1 pc = .ok (.d2l, 1)) {pc' : Nat} (he : pc + 1 = pc')  (kk : J E k M Z pc' ls (.long (FP.d2l x) :: st) h kc ks) : J E k M Z pc ls (.double x :: st) h kc ks := by
  subst he
  obtain ⟨p, l0, e, R, s, m, args, below, meth, c, G0, r0, h0, mc0, ms0⟩ := E
  obtain ⟨⟨rfl, rfl, rfl, rfl, rfl, rfl⟩, hR, hx, hb, hml, hr, hown, hts, hlk, hnm, hSF, hge⟩ := ok
  intro z hz hZ H locs la hsz hRH hS hl
  exact lv_d2l hx hb hd (kk z hz hZ H locs la hsz hRH hS hl)
theorem J_fcmp (ok : JOK E l G k mc ms r h') {x y : UInt32} {op : CmpOp} (hd : decode k.2.1 pc = .ok (.fcmp op, 1)) {pc' : Nat} (he : pc + 1 = pc')  (kk : J E k M Z pc' ls (.int (Op.cmpValue (FP.fcmp x y) op) :: st) h kc ks) : J E k M Z pc ls (.float y :: .float x :: st) h kc ks := by
  subst he
  obtain ⟨p, l0, e, R, s, m, args, below, meth, c, G0, r0, h0, mc0, ms0⟩ := E
  obtain ⟨⟨rfl, rfl, rfl, rfl, rfl, rfl⟩, hR, hx, hb, hml, hr, hown, hts, hlk, hnm, hSF, hge⟩ := ok
  intro z hz hZ H locs la hsz hRH hS hl
  exact lv_fcmp hx hb hd (kk z hz hZ H locs la hsz hRH hS hl)
theorem J_dcmp (ok : JOK E l G k mc ms r h') {x y : UInt64} {op : CmpOp} (hd : decode k.2.1 pc = .ok (.dcmp op, 1)) {pc' : Nat} (he : pc + 1 = pc')  (kk : J E k M Z pc' ls (.int (Op.cmpValue (FP.dcmp x y) op) :: st) h kc ks) : J E k M Z pc ls (.double y :: .double x :: st) h kc ks := by
  subst he
  obtain ⟨p, l0, e, R, s, m, args, below, meth, c, G0, r0, h0, mc0, ms0⟩ := E
  obtain ⟨⟨rfl, rfl, rfl, rfl, rfl, rfl⟩, hR, hx, hb, hml, hr, hown, hts, hlk, hnm, hSF, hge⟩ := ok
  intro z hz hZ H locs la hsz hRH hS hl
  exact lv_dcmp hx hb hd (kk z hz hZ H locs la hsz hRH hS hl)
theorem J_fmul (ok : JOK E l G k mc ms r h') {x y : UInt32} {f : UInt32 → Option β} (hd : decode k.2.1 pc = .ok (.fmul, 1)) {pc' : Nat} (he : pc + 1 = pc') (kk : J E k (f (FP.fmul x y)) Z pc' ls (.float (FP.fmul x y) :: st) h kc ks) : J E k ((n32 (FP.fmul x y)).bind f) Z pc ls (.float y :: .float x :: st) h kc ks := by
  subst he
  obtain ⟨p, l0, e, R, s, m, args, below, meth, c, G0, r0, h0, mc0, ms0⟩ := E
  obtain ⟨⟨rfl, rfl, rfl, rfl, rfl, rfl⟩, hR, hx, hb, hml, hr, hown, hts, hlk, hnm, hSF, hge⟩ := ok
  intro z hz hZ H locs la hsz hRH hS hl
  obtain ⟨w, hw, hz⟩ := Option.bind_eq_some_iff.mp hz
  obtain ⟨hne, rfl⟩ := n32_spec hw
  exact lv_fmul hx hb hd hne (kk z hz hZ H locs la hsz hRH hS hl)
theorem J_fdiv (ok : JOK E l G k mc ms r h') {x y : UInt32} {f : UInt32 → Option β} (hd : decode k.2.1 pc = .ok (.fdiv, 1)) {pc' : Nat} (he : pc + 1 = pc') (kk : J E k (f (FP.fdiv x y)) Z pc' ls (.float (FP.fdiv x y) :: st) h kc ks) : J E k ((n32 (FP.fdiv x y)).bind f) Z pc ls (.float y :: .float x :: st) h kc ks := by
  subst he
  obtain ⟨p, l0, e, R, s, m, args, below, meth, c, G0, r0, h0, mc0, ms0⟩ := E
  obtain ⟨⟨rfl, rfl, rfl, rfl, rfl, rfl⟩, hR, hx, hb, hml, hr, hown, hts, hlk, hnm, hSF, hge⟩ := ok
  intro z hz hZ H locs la hsz hRH hS hl
  obtain ⟨w, hw, hz⟩ := Option.bind_eq_some_iff.mp hz
  obtain ⟨hne, rfl⟩ := n32_spec hw
  exact lv_fdiv hx hb hd hne (kk z hz hZ H locs la hsz hRH hS hl)
theorem J_dmul (ok : JOK E l G k mc ms r h') {x y : UInt64} {f : UInt64 → Option β} (hd : decode k.2.1 pc = .ok (.dmul, 1)) {pc' : Nat} (he : pc + 1 = pc') (kk : J E k (f (FP.dmul x y)) Z pc' ls (.double (FP.dmul x y) :: st) h kc ks) : J E k ((n64 (FP.dmul x y)).bind f) Z pc ls (.double y :: .double x :: st) h kc ks := by
  subst he
  obtain ⟨p, l0, e, R, s, m, args, below, meth, c, G0, r0, h0, mc0, ms0⟩ := E
  obtain ⟨⟨rfl, rfl, rfl, rfl, rfl, rfl⟩, hR, hx, hb, hml, hr, hown, hts, hlk, hnm, hSF, hge⟩ := ok
  intro z hz hZ H locs la hsz hRH hS hl
  obtain ⟨w, hw, hz⟩ := Option.bind_eq_some_iff.mp hz
  obtain ⟨hne, rfl⟩ := n64_spec hw
  exact lv_dmul hx hb hd hne (kk z hz hZ H locs la hsz hRH hS hl)
theorem J_ddiv (ok : JOK E l G k mc ms r h') {x y : UInt64} {f : UInt64 → Option β} (hd : decode k.2.1 pc = .ok (.ddiv, 1)) {pc' : Nat} (he : pc + 1 = pc') (kk : J E k (f (FP.ddiv x y)) Z pc' ls (.double (FP.ddiv x y) :: st) h kc ks) : J E k ((n64 (FP.ddiv x y)).bind f) Z pc ls (.double y :: .double x :: st) h kc ks := by
  subst he
  obtain ⟨p, l0, e, R, s, m, args, below, meth, c, G0, r0, h0, mc0, ms0⟩ := E
  obtain ⟨⟨rfl, rfl, rfl, rfl, rfl, rfl⟩, hR, hx, hb, hml, hr, hown, hts, hlk, hnm, hSF, hge⟩ := ok
  intro z hz hZ H locs la hsz hRH hS hl
  obtain ⟨w, hw, hz⟩ := Option.bind_eq_some_iff.mp hz
  obtain ⟨hne, rfl⟩ := n64_spec hw
  exact lv_ddiv hx hb hd hne (kk z hz hZ H locs la hsz hRH hS hl)
theorem J_dup (ok : JOK E l G k mc ms r h') {v : Value} (hd : decode k.2.1 pc = .ok (.dup, 1)) {pc' : Nat} (he : pc + 1 = pc') (hv : v.category = 1) (kk : J E k M Z pc' ls (v :: v :: st) h kc ks) : J E k M Z pc ls (v :: st) h kc ks := by
  subst he
  obtain ⟨p, l0, e, R, s, m, args, below, meth, c, G0, r0, h0, mc0, ms0⟩ := E
  obtain ⟨⟨rfl, rfl, rfl, rfl, rfl, rfl⟩, hR, hx, hb, hml, hr, hown, hts, hlk, hnm, hSF, hge⟩ := ok
  intro z hz hZ H locs la hsz hRH hS hl
  exact lv_dup hx hb hd ((vc_cat hSF.1 v).trans hv) (kk z hz hZ H locs la hsz hRH hS hl)
theorem J_pop (ok : JOK E l G k mc ms r h') {v : Value} (hd : decode k.2.1 pc = .ok (.pop, 1)) {pc' : Nat} (he : pc + 1 = pc') (hv : v.category = 1) (kk : J E k M Z pc' ls (st) h kc ks) : J E k M Z pc ls (v :: st) h kc ks := by
  subst he
  obtain ⟨p, l0, e, R, s, m, args, below, meth, c, G0, r0, h0, mc0, ms0⟩ := E
  obtain ⟨⟨rfl, rfl, rfl, rfl, rfl, rfl⟩, hR, hx, hb, hml, hr, hown, hts, hlk, hnm, hSF, hge⟩ := ok
  intro z hz hZ H locs la hsz hRH hS hl
  exact lv_pop hx hb hd ((vc_cat hSF.1 v).trans hv) (kk z hz hZ H locs la hsz hRH hS hl)
theorem J_dup2 (ok : JOK E l G k mc ms r h') {v w : Value} (hd : decode k.2.1 pc = .ok (.dup2, 1)) {pc' : Nat} (he : pc + 1 = pc') (hv : v.category = 1) (hw : w.category = 1) (kk : J E k M Z pc' ls (v :: w :: v :: w :: st) h kc ks) : J E k M Z pc ls (v :: w :: st) h kc ks := by
  subst he
  obtain ⟨p, l0, e, R, s, m, args, below, meth, c, G0, r0, h0, mc0, ms0⟩ := E
  obtain ⟨⟨rfl, rfl, rfl, rfl, rfl, rfl⟩, hR, hx, hb, hml, hr, hown, hts, hlk, hnm, hSF, hge⟩ := ok
  intro z hz hZ H locs la hsz hRH hS hl
  exact lv_dup2_11 hx hb hd ((vc_cat hSF.1 v).trans hv) ((vc_cat hSF.1 w).trans hw) (kk z hz hZ H locs la hsz hRH hS hl)
theorem J_if_eq (ok : JOK E l G k mc ms r h') {x : Int32} {off : Int} {tgt : Nat} {A B : Option β} (hd : decode k.2.1 pc = .ok (.ifCond .eq off, 3)) {pc' : Nat} (he : pc + 3 = pc') (ht : (pc : Int) + off = (tgt : Int)) (kt : J E k A Z tgt ls st h kc ks) (kf : J E k B Z pc' ls st h kc ks) : J E k (if x = 0 then A else B) Z pc ls (.int x :: st) h kc ks := by
  subst he
  obtain ⟨p, l0, e, R, s, m, args, below, meth, c, G0, r0, h0, mc0, ms0⟩ := E
  obtain ⟨⟨rfl, rfl, rfl, rfl, rfl, rfl⟩, hR, hx, hb, hml, hr, hown, hts, hlk, hnm, hSF, hge⟩ := ok
  intro z hz hZ H locs la hsz hRH hS hl
  exact lv_if_eq (tgt := tgt) hx hb hd ht (fun hc => kt z (by rw [if_pos hc] at hz; exact hz) hZ H locs la hsz hRH hS hl) (fun hc => kf z (by rw [if_neg hc] at hz; exact hz) hZ H locs la hsz hRH hS hl)
theorem J_icmp_eq (ok : JOK E l G k mc ms r h') {x y : Int32} {off : Int} {tgt : Nat} {A B : Option β} (hd : decode k.2.1 pc = .ok (.if_icmp .eq off, 3)) {pc' : Nat} (he : pc + 3 = pc') (ht : (pc : Int) + off = (tgt : Int)) (kt : J E k A Z tgt ls st h kc ks) (kf : J E k B Z pc' ls st h kc ks) : J E k (if x = y then A else B) Z pc ls (.int y :: .int x :: st) h kc ks := by
  subst he
  obtain ⟨p, l0, e, R, s, m, args, below, meth, c, G0, r0, h0, mc0, ms0⟩ := E
  obtain ⟨⟨rfl, rfl, rfl, rfl, rfl, rfl⟩, hR, hx, hb, hml, hr, hown, hts, hlk, hnm, hSF, hge⟩ := ok
  intro z hz hZ H locs la hsz hRH hS hl
  exact lv_icmp_eq (tgt := tgt) hx hb hd ht (fun hc => kt z (by rw [if_pos hc] at hz; exact hz) hZ H locs la hsz hRH hS hl) (fun hc => kf z (by rw [if_neg hc] at hz; exact hz) hZ H locs la hsz hRH hS hl)
theorem J_if_ne (ok : JOK E l G k mc ms r h') {x : Int32} {off : Int} {tgt : Nat} {A B : Option β} (hd : decode k.2.1 pc = .ok (.ifCond .ne off, 3)) {pc' : Nat} (he : pc + 3 = pc') (ht : (pc : Int) + off = (tgt : Int)) (kt : J E k A Z tgt ls st h kc ks) (kf : J E k B Z pc' ls st h kc ks) : J E k (if ¬ x = 0 then A else B) Z pc ls (.int x :: st) h kc ks := by
  subst he
  obtain ⟨p, l0, e, R, s, m, args, below, meth, c, G0, r0, h0, mc0, ms0⟩ := E
  obtain ⟨⟨rfl, rfl, rfl, rfl, rfl, rfl⟩, hR, hx, hb, hml, hr, hown, hts, hlk, hnm, hSF, hge⟩ := ok
  intro z hz hZ H locs la hsz hRH hS hl
  exact lv_if_ne (tgt := tgt) hx hb hd ht (fun hc => kt z (by rw [if_pos hc] at hz; exact hz) hZ H locs la hsz hRH hS hl) (fun hc => kf z (by rw [if_neg (fun n => n hc)] at hz; exact hz) hZ H locs la hsz hRH hS hl)
theorem J_icmp_ne (ok : JOK E l G k mc ms r h') {x y : Int32} {off : Int} {tgt : Nat} {A B : Option β} (hd : decode k.2.1 pc = .ok (.if_icmp .ne off, 3)) {pc' : Nat} (he : pc + 3 = pc') (ht : (pc : Int) + off = (tgt : Int)) (kt : J E k A Z tgt ls st h kc ks) (kf : J E k B Z pc' ls st h kc ks) : J E k (if ¬ x = y then A else B) Z pc ls (.int y :: .int x :: st) h kc ks := by
  subst he
  obtain ⟨p, l0, e, R, s, m, args, below, meth, c, G0, r0, h0, mc0, ms0⟩ := E
  obtain ⟨⟨rfl, rfl, rfl, rfl, rfl, rfl⟩, hR, hx, hb, hml, hr, hown, hts, hlk, hnm, hSF, hge⟩ := ok
  intro z hz hZ H locs la hsz hRH hS hl
  exact lv_icmp_ne (tgt := tgt) hx hb hd ht (fun hc => kt z (by rw [if_pos hc] at hz; exact hz) hZ H locs la hsz hRH hS hl) (fun hc => kf z (by rw [if_neg (fun n => n hc)] at hz; exact hz) hZ H locs la hsz hRH hS hl)
theorem J_if_lt (ok : JOK E l G k mc ms r h') {x : Int32} {off : Int} {tgt : Nat} {A B : Option β} (hd : decode k.2.1 pc = .ok (.ifCond .lt off, 3)) {pc' : Nat} (he : pc + 3 = pc') (ht : (pc : Int) + off = (tgt : Int)) (kt : J E k A Z tgt ls st h kc ks) (kf : J E k B Z pc' ls st h kc ks) : J E k (if x < 0 then A else B) Z pc ls (.int x :: st) h kc ks := by
  subst he
  obtain ⟨p, l0, e, R, s, m, args, below, meth, c, G0, r0, h0, mc0, ms0⟩ := E
  obtain ⟨⟨rfl, rfl, rfl, rfl, rfl, rfl⟩, hR, hx, hb, hml, hr, hown, hts, hlk, hnm, hSF, hge⟩ := ok
  intro z hz hZ H locs la hsz hRH hS hl
  exact lv_if_lt (tgt := tgt) hx hb hd ht (fun hc => kt z (by rw [if_pos hc] at hz; exact hz) hZ H locs la hsz hRH hS hl) (fun hc => kf z (by rw [if_neg hc] at hz; exact hz) hZ H locs la hsz hRH hS hl)
theorem J_icmp_lt (ok : JOK E l G k mc ms r h') {x y : Int32} {off : Int} {tgt : Nat} {A B : Option β} (hd : decode k.2.1 pc = .ok (.if_icmp .lt off, 3)) {pc' : Nat} (he : pc + 3 = pc') (ht : (pc : Int) + off = (tgt : Int)) (kt : J E k A Z tgt ls st h kc ks) (kf : J E k B Z pc' ls st h kc ks) : J E k (if x < y then A else B) Z pc ls (.int y :: .int x :: st) h kc ks := by
  subst he
  obtain ⟨p, l0, e, R, s, m, args, below, meth, c, G0, r0, h0, mc0, ms0⟩ := E
  obtain ⟨⟨rfl, rfl, rfl, rfl, rfl, rfl⟩, hR, hx, hb, hml, hr, hown, hts, hlk, hnm, hSF, hge⟩ := ok
  intro z hz hZ H locs la hsz hRH hS hl
  exact lv_icmp_lt (tgt := tgt) hx hb hd ht (fun hc => kt z (by rw [if_pos hc] at hz; exact hz) hZ H locs la hsz hRH hS hl) (fun hc => kf z (by rw [if_neg hc] at hz; exact hz) hZ H locs la hsz hRH hS hl)
theorem J_if_ge (ok : JOK E l G k mc ms r h') {x : Int32} {off : Int} {tgt : Nat} {A B : Option β} (hd : decode k.2.1 pc = .ok (.ifCond .ge off, 3)) {pc' : Nat} (he : pc + 3 = pc') (ht : (pc : Int) + off = (tgt : Int)) (kt : J E k A Z tgt ls st h kc ks) (kf : J E k B Z pc' ls st h kc ks) : J E k (if 0 ≤ x then A else B) Z pc ls (.int x :: st) h kc ks := by
  subst he
  obtain ⟨p, l0, e, R, s, m, args, below, meth, c, G0, r0, h0, mc0, ms0⟩ := E
  obtain ⟨⟨rfl, rfl, rfl, rfl, rfl, rfl⟩, hR, hx, hb, hml, hr, hown, hts, hlk, hnm, hSF, hge⟩ := ok
  intro z hz hZ H locs la hsz hRH hS hl
  exact lv_if_ge (tgt := tgt) hx hb hd ht (fun hc => kt z (by rw [if_pos hc] at hz; exact hz) hZ H locs la hsz hRH hS hl) (fun hc => kf z (by rw [if_neg hc] at hz; exact hz) hZ H locs la hsz hRH hS hl)
theorem J_icmp_ge (ok : JOK E l G k mc ms r h') {x y : Int32} {off : Int} {tgt : Nat} {A B : Option β} (hd : decode k.2.1 pc = .ok (.if_icmp .ge off, 3)) {pc' : Nat} (he : pc + 3 = pc') (ht : (pc : Int) + off = (tgt : Int)) (kt : J E k A Z tgt ls st h kc ks) (kf : J E k B Z pc' ls st h kc ks) : J E k (if y ≤ x then A else B) Z pc ls (.int y :: .int x :: st) h kc ks := by
  subst he
  obtain ⟨p, l0, e, R, s, m, args, below, meth, c, G0, r0, h0, mc0, ms0⟩ := E
  obtain ⟨⟨rfl, rfl, rfl, rfl, rfl, rfl⟩, hR, hx, hb, hml, hr, hown, hts, hlk, hnm, hSF, hge⟩ := ok
  intro z hz hZ H locs la hsz hRH hS hl
  exact lv_icmp_ge (tgt := tgt) hx hb hd ht (fun hc => kt z (by rw [if_pos hc] at hz; exact hz) hZ H locs la hsz hRH hS hl) (fun hc => kf z (by rw [if_neg hc] at hz; exact hz) hZ H locs la hsz hRH hS hl)
theorem J_if_gt (ok : JOK E l G k mc ms r h') {x : Int32} {off : Int} {tgt : Nat} {A B : Option β} (hd : decode k.2.1 pc = .ok (.ifCond .gt off, 3)) {pc' : Nat} (he : pc + 3 = pc') (ht : (pc : Int) + off = (tgt : Int)) (kt : J E k A Z tgt ls st h kc ks) (kf : J E k B Z pc' ls st h kc ks) : J E k (if 0 < x then A else B) Z pc ls (.int x :: st) h kc ks := by
  subst he
  obtain ⟨p, l0, e, R, s, m, args, below, meth, c, G0, r0, h0, mc0, ms0⟩ := E
  obtain ⟨⟨rfl, rfl, rfl, rfl, rfl, rfl⟩, hR, hx, hb, hml, hr, hown, hts, hlk, hnm, hSF, hge⟩ := ok
  intro z hz hZ H locs la hsz hRH hS hl
  exact lv_if_gt (tgt := tgt) hx hb hd ht (fun hc => kt z (by rw [if_pos hc] at hz; exact hz) hZ H locs la hsz hRH hS hl) (fun hc => kf z (by rw [if_neg hc] at hz; exact hz) hZ H locs la hsz hRH hS hl)
theorem J_icmp_gt (ok : JOK E l G k mc ms r h') {x y : Int32} {off : Int} {tgt : Nat} {A B : Option β} (hd : decode k.2.1 pc = .ok (.if_icmp .gt off, 3)) {pc' : Nat} (he : pc + 3 = pc') (ht : (pc : Int) + off = (tgt : Int)) (kt : J E k A Z tgt ls st h kc ks) (kf : J E k B Z pc' ls st h kc ks) : J E k (if y < x then A else B) Z pc ls (.int y :: .int x :: st) h kc ks := by
  subst he
  obtain ⟨p, l0, e, R, s, m, args, below, meth, c, G0, r0, h0, mc0, ms0⟩ := E
  obtain ⟨⟨rfl, rfl, rfl, rfl, rfl, rfl⟩, hR, hx, hb, hml, hr, hown, hts, hlk, hnm, hSF, hge⟩ := ok
  intro z hz hZ H locs la hsz hRH hS hl
  exact lv_icmp_gt (tgt := tgt) hx hb hd ht (fun hc => kt z (by rw [if_pos hc] at hz; exact hz) hZ H locs la hsz hRH hS hl) (fun hc => kf z (by rw [if_neg hc] at hz; exact hz) hZ H locs la hsz hRH hS hl)
theorem J_if_le (ok : JOK E l G k mc ms r h') {x : Int32} {off : Int} {tgt : Nat} {A B : Option β} (hd : decode k.2.1 pc = .ok (.ifCond .le off, 3)) {pc' : Nat} (he : pc + 3 = pc') (ht : (pc : Int) + off = (tgt : Int)) (kt : J E k A Z tgt ls st h kc ks) (kf : J E k B Z pc' ls st h kc ks) : J E k (if x ≤ 0 then A else B) Z pc ls (.int x :: st) h kc ks := by
  subst he
  obtain ⟨p, l0, e, R, s, m, args, below, meth, c, G0, r0, h0, mc0, ms0⟩ := E
  obtain ⟨⟨rfl, rfl, rfl, rfl, rfl, rfl⟩, hR, hx, hb, hml, hr, hown, hts, hlk, hnm, hSF, hge⟩ := ok
  intro z hz hZ H locs la hsz hRH hS hl
  exact lv_if_le (tgt := tgt) hx hb hd ht (fun hc => kt z (by rw [if_pos hc] at hz; exact hz) hZ H locs la hsz hRH hS hl) (fun hc => kf z (by rw [if_neg hc] at hz; exact hz) hZ H locs la hsz hRH hS hl)
theorem J_icmp_le (ok : JOK E l G k mc ms r h') {x y : Int32} {off : Int} {tgt : Nat} {A B : Option β} (hd : decode k.2.1 pc = .ok (.if_icmp .le off, 3)) {pc' : Nat} (he : pc + 3 = pc') (ht : (pc : Int) + off = (tgt : Int)) (kt : J E k A Z tgt ls st h kc ks) (kf : J E k B Z pc' ls st h kc ks) : J E k (if x ≤ y then A else B) Z pc ls (.int y :: .int x :: st) h kc ks := by
  subst he
  obtain ⟨p, l0, e, R, s, m, args, below, meth, c, G0, r0, h0, mc0, ms0⟩ := E
  obtain ⟨⟨rfl, rfl, rfl, rfl, rfl, rfl⟩, hR, hx, hb, hml, hr, hown, hts, hlk, hnm, hSF, hge⟩ := ok
  intro z hz hZ H locs la hsz hRH hS hl
  exact lv_icmp_le (tgt := tgt) hx hb hd ht (fun hc => kt z (by rw [if_pos hc] at hz; exact hz) hZ H locs la hsz hRH hS hl) (fun hc => kf z (by rw [if_neg hc] at hz; exact hz) hZ H locs la hsz hRH hS hl)
theorem J_goto (ok : JOK E l G k mc ms r h') {off : Int} {tgt : Nat} (hd : decode k.2.1 pc = .ok (.goto off, 3)) (ht : (pc : Int) + off = (tgt : Int)) (kk : J E k M Z tgt ls st h kc ks) : J E k M Z pc ls st h kc ks := by
  obtain ⟨p, l0, e, R, s, m, args, below, meth, c, G0, r0, h0, mc0, ms0⟩ := E
  obtain ⟨⟨rfl, rfl, rfl, rfl, rfl, rfl⟩, hR, hx, hb, hml, hr, hown, hts, hlk, hnm, hSF, hge⟩ := ok
  intro z hz hZ H locs la hsz hRH hS hl
  exact lv_goto (tgt := tgt) hx hb hd ht (kk z hz hZ H locs la hsz hRH hS hl)
end Rules
