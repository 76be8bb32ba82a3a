set_option maxRecDepth 100000 in
set_option maxHeartbeats 4000000 in
theorem law_strs {b : Nat} {s : State} (hs : ∀ c ∈ flatC (Jvm.Cond.and given_1 narrow_1), c.before #[Value.ref b] s = true) (A : Nat → Prop) (hA : ∀ a : Nat, a < s.heap.size → ¬ A a) : ∃ adK adV : Nat → Nat, vk_S 4 [5, 4, 4, 4] [strB 0, strB 1, strB 2, strB 3] adK adV A s s.heap ∧ ∀ i : Nat, i < 4 → (Term.string "SplitProgram$Tape" (([66, 75, 80, 85] : List Nat).getD i 0)).eval #[Value.ref b] s none [] s = some (.ref (adK i)) := by
  refine vk_Sof (tm := fun i => Term.string "SplitProgram$Tape" (([66, 75, 80, 85] : List Nat).getD i 0)) ?_ ?_ ?_ ?_ ?_ ?_ ?_ hA
  · decide
  · intro i hi
    rcases (show i = 0 ∨ i = 1 ∨ i = 2 ∨ i = 3 by omega) with rfl | rfl | rfl | rfl <;> exact hs _ (by decide +kernel)
  · intro i hi
    rcases (show i = 0 ∨ i = 1 ∨ i = 2 ∨ i = 3 by omega) with rfl | rfl | rfl | rfl <;> exact hs _ (by decide +kernel)
  · intro i hi
    rcases (show i = 0 ∨ i = 1 ∨ i = 2 ∨ i = 3 by omega) with rfl | rfl | rfl | rfl <;> exact hs _ (by decide +kernel)
  · intro i hi
    rcases (show i = 0 ∨ i = 1 ∨ i = 2 ∨ i = 3 by omega) with rfl | rfl | rfl | rfl <;> exact hs _ (by decide +kernel)
  · intro i hi j hj
    rcases (show i = 0 ∨ i = 1 ∨ i = 2 ∨ i = 3 by omega) with rfl | rfl | rfl | rfl
    · rcases (show j = 0 ∨ j = 1 ∨ j = 2 ∨ j = 3 ∨ j = 4 by simp at hj; omega) with rfl | rfl | rfl | rfl | rfl <;> exact hs _ (by decide +kernel)
    · rcases (show j = 0 ∨ j = 1 ∨ j = 2 ∨ j = 3 by simp at hj; omega) with rfl | rfl | rfl | rfl <;> exact hs _ (by decide +kernel)
    · rcases (show j = 0 ∨ j = 1 ∨ j = 2 ∨ j = 3 by simp at hj; omega) with rfl | rfl | rfl | rfl <;> exact hs _ (by decide +kernel)
    · rcases (show j = 0 ∨ j = 1 ∨ j = 2 ∨ j = 3 by simp at hj; omega) with rfl | rfl | rfl | rfl <;> exact hs _ (by decide +kernel)
  · intro i j hi hj hij
    rcases (show i = 0 ∨ i = 1 ∨ i = 2 ∨ i = 3 by omega) with rfl | rfl | rfl | rfl <;> rcases (show j = 0 ∨ j = 1 ∨ j = 2 ∨ j = 3 by omega) with rfl | rfl | rfl | rfl <;> first | exact absurd rfl hij | exact Or.inl (hs _ (by decide +kernel)) | exact Or.inr (hs _ (by decide +kernel))
set_option maxRecDepth 100000 in
set_option maxHeartbeats 4000000 in
theorem law_tab {b : Nat} {s : State} (hs : ∀ c ∈ flatC (Jvm.Cond.and given_1 narrow_1), c.before #[Value.ref b] s = true) (ht : ∀ w ∈ tables_1, w.before #[Value.ref b] s = true) (A : Nat → Prop) (hA : ∀ a : Nat, a < s.heap.size → ¬ A a) : (∃ t, va_Z "SplitProgram" "TERM_LOWEST" "[I" (.ref t) A s s.heap ∧ va_T .int t 4 (fun j => .int (([0, 0, 0, 4] : List Int32).getD j 0)) A s s.heap) ∧ (∃ t, va_Z "SplitProgram" "TERM_HIGHEST" "[I" (.ref t) A s s.heap ∧ va_T .int t 4 (fun j => .int (([1, 9, 1000, 40] : List Int32).getD j 0)) A s s.heap) := by
  constructor
  · obtain ⟨t, h1, h2⟩ := va_Tof (tm := .static "SplitProgram" "TERM_LOWEST" "[I") (ty := .int) (N := 4) (f := fun j => .int (([0, 0, 0, 4] : List Int32).getD j 0)) (A := A) (by decide) (hs _ (by decide +kernel)) (va_eqt (hs _ (by decide +kernel))) (fun j hj => by
      rcases (show j = 0 ∨ j = 1 ∨ j = 2 ∨ j = 3 by omega) with rfl | rfl | rfl | rfl <;> exact va_eqt (hs _ (by decide +kernel))) hA
    exact ⟨t, va_Zof (ht _ (tin2 (List.mem_of_getElem? (i := 197) rfl))) (ht _ (tin1 (List.mem_of_getElem? (i := 1) rfl))) h1 hA, h2⟩
  · obtain ⟨t, h1, h2⟩ := va_Tof (tm := .static "SplitProgram" "TERM_HIGHEST" "[I") (ty := .int) (N := 4) (f := fun j => .int (([1, 9, 1000, 40] : List Int32).getD j 0)) (A := A) (by decide) (hs _ (by decide +kernel)) (va_eqt (hs _ (by decide +kernel))) (fun j hj => by
      rcases (show j = 0 ∨ j = 1 ∨ j = 2 ∨ j = 3 by omega) with rfl | rfl | rfl | rfl <;> exact va_eqt (hs _ (by decide +kernel))) hA
    exact ⟨t, va_Zof (ht _ (tin2 (List.mem_of_getElem? (i := 199) rfl))) (ht _ (tin1 (List.mem_of_getElem? (i := 1) rfl))) h1 hA, h2⟩
set_option maxRecDepth 100000 in
set_option maxHeartbeats 4000000 in
theorem law_G {b : Nat} {s : State} (hts : ∀ w ∈ lw_tbl, w.before #[Value.ref b] s = true) (hgv : (Jvm.Cond.and given_1 narrow_1).before #[Value.ref b] s = true) : ∃ G : GX, gB G = s.heap.size ∧ gF G 11 = b ∧ SF G s s.heap := by
  have hs := flat_of_before _ hgv
  have ht := lw_t1 hts
  have hg := lw_gw hts
  have hA : ∀ a : Nat, a < s.heap.size → ¬ (fun q : Nat => s.heap.size ≤ q) a := fun a h1 h2 => absurd h1 (Nat.not_lt.mpr h2)
  obtain ⟨D, hD⟩ := law_D hts
  obtain ⟨kI, hI⟩ := arr_known (hg _ warr_int) (by intro C h; cases h)
  obtain ⟨kZ, hZ⟩ := arr_known (hg _ warr_boolean) (by intro C h; cases h)
  obtain ⟨kB, hB⟩ := arr_known (hg _ warr_byte) (by intro C h; cases h)
  have hAO := ht _ (tin2 (List.mem_of_getElem? (i := 125) rfl))
  obtain ⟨kS, hS⟩ := arr_knownS hAO
  obtain ⟨⟨t0, z0, w0⟩, ⟨t1, z1, w1⟩⟩ := law_tab hs ht (fun q : Nat => s.heap.size ≤ q) hA
  obtain ⟨adK, adV, hstr, hev⟩ := law_strs hs (fun q : Nat => s.heap.size ≤ q) hA
  have hcs : va_Z "java/lang/String" "COMPACT_STRINGS" "Z" (.int 1) (fun q : Nat => s.heap.size ≤ q) s s.heap := va_Zof (ht _ (tin3 (List.mem_of_getElem? (i := 17) rfl))) (ht _ (tin1 (List.mem_of_getElem? (i := 14) rfl))) (va_eqt (hs _ (by decide +kernel))) hA
  have hfm : va_Zq "jdk/internal/util/Preconditions" "SIOOBE_FORMATTER" "Ljava/util/function/BiFunction;" (fun q : Nat => s.heap.size ≤ q) s s.heap := va_Zqof (ht _ (tin3 (List.mem_of_getElem? (i := 33) rfl))) (ht _ (tin1 (List.mem_of_getElem? (i := 16) rfl))) (hs _ (by decide +kernel)) hA
  obtain ⟨sv, hsv, hfv⟩ : ∃ sv : Value, sv.category = 1 ∧ va_Z "jdk/internal/util/Preconditions" "SIOOBE_FORMATTER" "Ljava/util/function/BiFunction;" sv (fun q : Nat => s.heap.size ≤ q) s s.heap := by
    rcases hfm with h | ⟨t, h⟩
    · exact ⟨.null, rfl, h⟩
    · exact ⟨.ref t, rfl, h⟩
  obtain ⟨fa, f0, f1, f2, f6, f11⟩ : ∃ fa : Nat → Nat, fa 0 = t0 ∧ fa 1 = t1 ∧ (∀ i, i < 4 → fa (2 + i) = adK i) ∧ (∀ i, i < 4 → fa (6 + i) = adV i) ∧ fa 11 = b := by
    refine ⟨fun i => if i = 0 then t0 else if i = 1 then t1 else if i < 6 then adK (i - 2) else if i < 10 then adV (i - 6) else b, rfl, rfl, fun i hi => ?_, fun i hi => ?_, rfl⟩
    · show (if 2 + i = 0 then t0 else if 2 + i = 1 then t1 else if 2 + i < 6 then adK (2 + i - 2) else if 2 + i < 10 then adV (2 + i - 6) else b) = adK i
      rw [if_neg (by omega), if_neg (by omega), if_pos (by omega), Nat.add_sub_cancel_left]
    · show (if 6 + i = 0 then t0 else if 6 + i = 1 then t1 else if 6 + i < 6 then adK (6 + i - 2) else if 6 + i < 10 then adV (6 + i - 6) else b) = adV i
      rw [if_neg (by omega), if_neg (by omega), if_neg (by omega), if_pos (by omega), Nat.add_sub_cancel_left]
  rw [← f0] at z0 w0
  rw [← f1] at z1 w1
  refine ⟨(D, (fun k => if k = 0 then kI else if k = 1 then kZ else if k = 2 then kB else kS), s.heap.size, fa, sv), rfl, f11, hsv, ⟨hD, ?_⟩, ⟨z0, w0⟩, ⟨z1, w1⟩, ⟨hcs, hfv⟩, ?_, ?_, ?_, va_AO.of hAO⟩
  · intro k q hq
    match k, hq with
    | 0, hq => cases hq; exact hI
    | 1, hq => cases hq; exact hZ
    | 2, hq => cases hq; exact hB
    | 3, hq => cases hq; exact hS
    | k + 4, hq => simp [tyL] at hq
  · refine ⟨fun i hi => ?_, fun i j hi hj e => ?_⟩
    · show va_O "java/lang/String" (fa (2 + i)) _ s s.heap ∧ va_OF "java/lang/String" "coder" "B" (.int 0) (fa (2 + i)) _ s s.heap ∧ va_OF "java/lang/String" "value" "[B" (.ref (fa (6 + i))) (fa (2 + i)) _ s s.heap ∧ va_T .byte (fa (6 + i)) _ _ _ s s.heap
      rw [f2 i hi, f6 i hi]
      exact hstr.1 i hi
    · have e : fa (2 + i) = fa (2 + j) := e
      rw [f2 i hi, f2 j hj] at e
      exact hstr.2 i j hi hj e
  · have v0 := hev 0 (by decide)
    have v1 := hev 1 (by decide)
    have v2 := hev 2 (by decide)
    have v3 := hev 3 (by decide)
    rw [← f2 0 (by decide)] at v0
    rw [← f2 1 (by decide)] at v1
    rw [← f2 2 (by decide)] at v2
    rw [← f2 3 (by decide)] at v3
    have u0 := va_eqR (t := .string "SplitProgram$Tape" 66) (u := .string "SplitProgramModel" 151) (hs _ (by decide +kernel)) v0
    have u1 := va_eqR (t := .string "SplitProgram$Tape" 75) (u := .string "SplitProgramModel" 160) (hs _ (by decide +kernel)) v1
    have u2 := va_eqR (t := .string "SplitProgram$Tape" 80) (u := .string "SplitProgramModel" 162) (hs _ (by decide +kernel)) v2
    have u3 := va_eqR (t := .string "SplitProgram$Tape" 85) (u := .string "SplitProgramModel" 167) (hs _ (by decide +kernel)) v3
    have key : ∀ (o : String) (k : Nat) (tx : String) (a : Nat), (Cond.stringRef o k tx).before #[Value.ref b] s = true → (Term.string o k).eval #[Value.ref b] s none [] s = some (.ref a) → vk_R o k tx a s := fun o k tx a h1 h2 => ⟨(by first | exact va_tabs rfl rfl h1 | exact h1), (Term.string_eval_of_vm rfl).trans h2⟩
    refine List.forall_mem_cons.mpr ⟨key _ _ _ _ (ht _ (tin3 (List.mem_of_getElem? (i := 3) rfl))) v0, List.forall_mem_cons.mpr ⟨key _ _ _ _ (ht _ (tin3 (List.mem_of_getElem? (i := 76) rfl))) v1, List.forall_mem_cons.mpr ⟨key _ _ _ _ (ht _ (tin3 (List.mem_of_getElem? (i := 81) rfl))) v2, List.forall_mem_cons.mpr ⟨key _ _ _ _ (ht _ (tin3 (List.mem_of_getElem? (i := 86) rfl))) v3, List.forall_mem_cons.mpr ⟨key _ _ _ _ (ht _ (tin5 (List.mem_of_getElem? (i := 226) rfl))) u0, List.forall_mem_cons.mpr ⟨key _ _ _ _ (ht _ (tin6 (List.mem_of_getElem? (i := 14) rfl))) u1, List.forall_mem_cons.mpr ⟨key _ _ _ _ (ht _ (tin6 (List.mem_of_getElem? (i := 15) rfl))) u2, List.forall_mem_cons.mpr ⟨key _ _ _ _ (ht _ (tin6 (List.mem_of_getElem? (i := 24) rfl))) u3, fun _ h => by cases h⟩⟩⟩⟩⟩⟩⟩⟩
  · intro w hw
    obtain ⟨a, i, x, c, rfl⟩ := nestW_M hw
    exact va_Nw.of rfl (ht _ (List.mem_filter.mp hw).1)
