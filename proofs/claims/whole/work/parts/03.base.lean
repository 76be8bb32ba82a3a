/-! the abstract heap: cells are objects (class number, fields), arrays of ints (0), booleans (1), bytes (2), or arrays of references -/
abbrev ACell : Type := (Nat × List Value) ⊕ ((Nat × List Int32) ⊕ List (Option Nat))
abbrev AHeap : Type := List ACell
def FB : Nat := 1000000
/-- D, array classes, base, foreign addresses, a carried value -/
abbrev GX : Type := va_G × (Nat → ClassId) × Nat × (Nat → Nat) × Value
abbrev gB (G : GX) : Nat := G.2.2.1
abbrev gF (G : GX) : Nat → Nat := G.2.2.2.1
def gAd (G : GX) (i : Nat) : Nat := if i < FB then gB G + i else gF G (i - FB)
def vc (G : GX) (v : Value) : Value := match v with
  | .ref i => .ref (gAd G i)
  | .retAddr _ => G.2.2.2.2
  | .int x => .int x
  | .long x => .long x
  | .float x => .float x
  | .double x => .double x
  | .null => .null
def cE (G : GX) (c : ACell) : va_E := match c with
  | .inl o => .inr (o.1, o.2.map (vc G))
  | .inr (.inl a) => .inl (G.2.1 a.1, (a.2.length, .inl (fun j => a.2.getD j 0)))
  | .inr (.inr rs) => .inl (G.2.1 3, (rs.length, .inr (.inr (.inr (.inr (fun j => (rs.getD j none).map (gAd G)))))))
def wsO (G : GX) (h : AHeap) : va_W := h.mapIdx (fun i c => (gB G + i, cE G c))
theorem wsO_get {G : GX} {h : AHeap} {i : Nat} {c : ACell} (hc : h[i]? = some c) : (wsO G h)[i]? = some (gB G + i, cE G c) := by
  simp [wsO, List.getElem?_mapIdx, hc]
theorem wsO_inv {G : GX} {h : AHeap} {i : Nat} {q : Nat × va_E} (hc : (wsO G h)[i]? = some q) : ∃ c, h[i]? = some c ∧ q = (gB G + i, cE G c) := by
  simp only [wsO, List.getElem?_mapIdx, Option.map_eq_some_iff] at hc
  obtain ⟨c, h1, h2⟩ := hc
  exact ⟨c, h1, h2.symm⟩
theorem wsO_set {G : GX} {h : AHeap} {i : Nat} {c : ACell} : (wsO G h).set i (gB G + i, cE G c) = wsO G (h.set i c) := by
  apply List.ext_getElem?
  intro j
  simp only [wsO, List.getElem?_set, List.getElem?_mapIdx, List.length_mapIdx]
  by_cases hj : i = j
  · subst hj
    by_cases hl : i < h.length <;> simp [hl]
  · simp [hj]
theorem wsO_push {G : GX} {h : AHeap} {c : ACell} : wsO G h ++ [(gB G + h.length, cE G c)] = wsO G (h ++ [c]) := by
  simp [wsO, List.mapIdx_append]
abbrev gA (G : GX) : Nat → Prop := fun q => gB G ≤ q
def RH (G : GX) (h : AHeap) (H : Heap) : Prop := h.length ≤ FB ∧ va_P G.1 vwCl (wsO G h) H
theorem RH.ge {G : GX} {h : AHeap} {H : Heap} (hb : gB G ≤ H.size) (hRH : RH G h H) : gB G + h.length ≤ H.size := by
  cases hn : h.length with
  | zero => simpa using hb
  | succ n =>
    have h1 : n < h.length := by omega
    have h2 : (gB G + n) < H.size := (hRH.2 n _ (wsO_get (List.getElem?_eq_getElem h1))).lt
    omega
theorem wsO_D {G : GX} {h : AHeap} : va_D (gA G) (wsO G h) := by
  refine ⟨fun i j p q hi hj hpq => ?_, fun k q hk => ?_⟩
  · obtain ⟨c, -, rfl⟩ := wsO_inv hi
    obtain ⟨d, -, rfl⟩ := wsO_inv hj
    simp only at hpq
    omega
  · obtain ⟨c, -, rfl⟩ := wsO_inv hk
    exact Nat.le_add_right _ _
def tyL (G : GX) : List (ClassId × FieldType) := [(G.2.1 0, .int), (G.2.1 1, .boolean), (G.2.1 2, .byte), (G.2.1 3, .object "SplitProgram$State")]
theorem gAd_lt {G : GX} {i : Nat} (h : i < FB) : gAd G i = gB G + i := by simp [gAd, h]
theorem vc_int {G : GX} {x : Int32} : vc G (.int x) = .int x := rfl
theorem vc_ref {G : GX} {x : Nat} : vc G (.ref x) = .ref (gAd G x) := rfl
/-! foreign cells: two static arrays, four string constants (object, bytes) -/
def strB (k : Nat) : List Int32 := match k with
  | 0 => [112, 108, 97, 110, 116]
  | 1 => [115, 105, 116, 101]
  | 2 => [114, 111, 97, 100]
  | _ => [99, 97, 115, 101]
def fcell (k : Nat) : Option ACell := match k with
  | 0 => some (.inr (.inl (0, [0, 0, 0, 4])))
  | 1 => some (.inr (.inl (0, [1, 9, 1000, 40])))
  | 2 => some (.inl (100, [.ref (FB + 6), .int 0]))
  | 3 => some (.inl (100, [.ref (FB + 7), .int 0]))
  | 4 => some (.inl (100, [.ref (FB + 8), .int 0]))
  | 5 => some (.inl (100, [.ref (FB + 9), .int 0]))
  | 6 => some (.inr (.inl (2, strB 0)))
  | 7 => some (.inr (.inl (2, strB 1)))
  | 8 => some (.inr (.inl (2, strB 2)))
  | 9 => some (.inr (.inl (2, strB 3)))
  | _ => none
def cAt (h : AHeap) (a : Nat) : Option ACell := if a < FB then h[a]? else fcell (a - FB)
/-- the words of the tables that stay when a class is warmed -/
def gw : List Cond := lw_tbl.filter goodWord
theorem gw_good : GoodIn gw gw := fun w hw => ⟨hw, good_of_word (List.mem_filter.mp hw).2⟩
def ldcT : List (String × Nat × String × Nat) := [("SplitProgram$Tape", 66, "plant", 2), ("SplitProgram$Tape", 75, "site", 3), ("SplitProgram$Tape", 80, "road", 4), ("SplitProgram$Tape", 85, "case", 5), ("SplitProgramModel", 151, "plant", 2), ("SplitProgramModel", 160, "site", 3), ("SplitProgramModel", 162, "road", 4), ("SplitProgramModel", 167, "case", 5)]
def isNestW (w : Cond) : Bool := match w with
  | .methodLinkNest _ _ _ _ => true
  | _ => false
def nestW : List Cond := tables_1.filter isNestW
/-- what holds at a method's start, of things outside the heap's abstract part -/
def SF (G : GX) (U : State) (H : Heap) : Prop :=
  G.2.2.2.2.category = 1 ∧ va_K G.1 vwCl (tyL G) U ∧
  (va_Z "SplitProgram" "TERM_LOWEST" "[I" (.ref (gF G 0)) (gA G) U H ∧ va_T .int (gF G 0) 4 (fun j => .int (([0, 0, 0, 4] : List Int32).getD j 0)) (gA G) U H) ∧
  (va_Z "SplitProgram" "TERM_HIGHEST" "[I" (.ref (gF G 1)) (gA G) U H ∧ va_T .int (gF G 1) 4 (fun j => .int (([1, 9, 1000, 40] : List Int32).getD j 0)) (gA G) U H) ∧
  (va_Z "java/lang/String" "COMPACT_STRINGS" "Z" (.int 1) (gA G) U H ∧ va_Z "jdk/internal/util/Preconditions" "SIOOBE_FORMATTER" "Ljava/util/function/BiFunction;" G.2.2.2.2 (gA G) U H) ∧
  vk_S 4 [5, 4, 4, 4] [strB 0, strB 1, strB 2, strB 3] (fun i => gF G (2 + i)) (fun i => gF G (6 + i)) (gA G) U H ∧
  (∀ q ∈ ldcT, vk_R q.1 q.2.1 q.2.2.1 (gF G q.2.2.2) U) ∧ (∀ w ∈ nestW, va_Nw w U) ∧ va_AO "SplitProgram$State" U
theorem SF.kept {G : GX} {U : State} {H H1 : Heap} (h : SF G U H) (hq : ∀ a : Nat, a < H.size → ¬ gA G a → H1[a]? = H[a]?) : SF G U H1 := by
  obtain ⟨h0, h1, ⟨h2, h3⟩, ⟨h4, h5⟩, ⟨h6, h7⟩, h8, h9, h10, h11⟩ := h
  exact ⟨h0, h1, ⟨h2.kept hq, h3.kept hq⟩, ⟨h4.kept hq, h5.kept hq⟩, ⟨h6.kept hq, h7.kept hq⟩, h8.kept hq, h9, h10, h11⟩
theorem nestW_M {w : Cond} (h : w ∈ nestW) : ∃ a i x b, w = .methodLinkNest a i x b := by
  have h2 := (List.mem_filter.mp h).2
  cases w <;> first | exact ⟨_, _, _, _, rfl⟩ | cases h2
theorem SF.warm {G : GX} {s U : State} {H : Heap} (h : SF G s H) (hW : s.WarmedH U.vm) : SF G U H := by
  obtain ⟨h0, h1, ⟨h2, h3⟩, ⟨h4, h5⟩, ⟨h6, h7⟩, h8, h9, h10, h11⟩ := h
  refine ⟨h0, h1.moved hW.alike, ⟨h2.moved hW.alike, h3.moved hW.alike⟩, ⟨h4.moved hW.alike, h5.moved hW.alike⟩, ⟨h6.moved hW.alike, h7.moved hW.alike⟩, h8.moved hW.alike, fun q hq => (h9 q hq).warm hW, fun w hw => ?_, h11.moved hW.alike⟩
  obtain ⟨a, i, x, b, rfl⟩ := nestW_M hw
  exact va_Nw.warmM hW (h10 _ hw)
theorem SF.same {G : GX} {s U : State} {H : Heap} (h : SF G s H) (hv : s.vm = U.vm) : SF G U H := by
  obtain ⟨h0, h1, ⟨h2, h3⟩, ⟨h4, h5⟩, ⟨h6, h7⟩, h8, h9, h10, h11⟩ := h
  have ha : s.vm.Alike U.vm := by rw [← hv]; exact Vm.Alike.refl _
  refine ⟨h0, h1.moved ha, ⟨h2.moved ha, h3.moved ha⟩, ⟨h4.moved ha, h5.moved ha⟩, ⟨h6.moved ha, h7.moved ha⟩, h8.moved ha, fun q hq => (h9 q hq).same hv.symm, fun w hw => ?_, h11.moved ha⟩
  obtain ⟨a, i, x, b, rfl⟩ := nestW_M hw
  exact va_Nw.same rfl hv (h10 _ hw)
