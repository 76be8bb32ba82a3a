/-! the constructors, on heaps whose arrays are told by a length and a value -/
abbrev KCell : Type := (Nat × List Value) ⊕ ((Nat × ((Nat × Int32) ⊕ List Int32)) ⊕ List (Option Nat))
abbrev KHeap : Type := List KCell
def exq (q : (Nat × Int32) ⊕ List Int32) : List Int32 := match q with
  | .inl p => List.replicate p.1 p.2
  | .inr xs => xs
def lnq (q : (Nat × Int32) ⊕ List Int32) : Nat := match q with
  | .inl p => p.1
  | .inr xs => xs.length
theorem exq_len (q : (Nat × Int32) ⊕ List Int32) : (exq q).length = lnq q := by
  cases q with
  | inl p => exact List.length_replicate
  | inr xs => rfl
def rl (c : KCell) : ACell := match c with
  | .inl o => .inl o
  | .inr (.inl q) => .inr (.inl (q.1, exq q.2))
  | .inr (.inr rs) => .inr (.inr rs)
def alcK (h : KHeap) (c : KCell) : Option (Nat × KHeap) := if h.length < FB then some (h.length, h ++ [c]) else none
def bndK {α β : Type} (F : Option (α × KHeap)) (f : α → KHeap → Option β) : Option β := F.bind fun q => f q.1 q.2
def gvK (h : KHeap) (a ci k : Nat) : Option Value := if a < FB then (match h[a]? with
  | some (.inl o) => if o.1 = ci then o.2[k]? else none
  | _ => none) else none
def giK (h : KHeap) (a ci k : Nat) : Option Int32 := match gvK h a ci k with
  | some (.int x) => some x
  | _ => none
def grK (h : KHeap) (a ci k : Nat) : Option Nat := match gvK h a ci k with
  | some (.ref x) => some x
  | _ => none
def pfK (h : KHeap) (a ci k : Nat) (v : Value) : Option KHeap := match h[a]? with
  | some (.inl o) => if o.1 = ci ∧ k < o.2.length then some (h.set a (.inl (ci, o.2.set k v))) else none
  | _ => none
def asK (h : KHeap) (a : Nat) (i x : Int32) : Option KHeap := match h[a]? with
  | some (.inr (.inl q)) => if q.1 = 0 ∧ ¬ i < 0 ∧ i.toNatClampNeg < (exq q.2).length then some (h.set a (.inr (.inl (0, .inr ((exq q.2).set i.toNatClampNeg x))))) else none
  | _ => none
def arK (h : KHeap) (a : Nat) (i : Int32) (q : Nat) : Option KHeap := match h[a]?, h[q]? with
  | some (.inr (.inr rs)), some (.inl o) => if o.1 = 8 ∧ ¬ i < 0 ∧ i.toNatClampNeg < rs.length then some (h.set a (.inr (.inr (rs.set i.toNatClampNeg (some q))))) else none
  | _, _ => none
def chkK (h : KHeap) (b ci : Nat) : Option Unit := match h[b]? with
  | some (.inl o) => if o.1 = ci then some () else none
  | _ => none
def fillK (a : Nat) (x : Int32) (h : KHeap) : Option (Unit × KHeap) := match h[a]? with
  | some (.inr (.inl q)) => if q.1 = 0 ∧ a < FB ∧ lnq q.2 < 1000000 then some ((), h.set a (.inr (.inl (0, .inl (lnq q.2, x))))) else none
  | _ => none
/-- what the compressed run gives, the true one gives -/
def Sm {α : Type} (g : α → AHeap → Option (α × AHeap)) (M : Option (α × AHeap)) (MK : Option (α × KHeap)) : Prop := ∀ x H, MK = some (x, H) → M = g x (H.map rl)
def rt {α : Type} (x : α) (h : AHeap) : Option (α × AHeap) := some (x, h)
theorem s_ret {α : Type} {x : α} {H : KHeap} : Sm rt (some (x, H.map rl)) (some (x, H)) := fun y H' e => by cases e; rfl
theorem rl_get {H : KHeap} {a : Nat} {c : KCell} (h : H[a]? = some c) : (H.map rl)[a]? = some (rl c) := by rw [List.getElem?_map, h]; rfl
theorem s_alc {α : Type} {g : α → AHeap → Option (α × AHeap)} {H : KHeap} {c : ACell} {c' : KCell} {f : Nat → AHeap → Option (α × AHeap)} {fK : Nat → KHeap → Option (α × KHeap)} (hc : c = rl c') (k : ∀ a H', Sm g (f a (H'.map rl)) (fK a H')) : Sm g (bnd2 (alc (H.map rl) c) f) (bndK (alcK H c') fK) := by
  intro x H1 e
  unfold alcK at e
  by_cases hl : H.length < FB
  · rw [if_pos hl] at e
    have e2 := k H.length (H ++ [c']) x H1 e
    rw [← e2]
    unfold alc
    rw [List.length_map, if_pos hl, bnd2_some, hc, List.map_append]
    rfl
  · rw [if_neg hl] at e
    cases e
theorem s_call {α : Type} {g : α → AHeap → Option (α × AHeap)} {H : KHeap} {v : Nat} {F : Nat → AHeap → Option (Unit × AHeap)} {FK : Nat → KHeap → Option (Unit × KHeap)} {f : Unit → AHeap → Option (α × AHeap)} {fK : Unit → KHeap → Option (α × KHeap)} (hF : ∀ v H, Sm rt (F v (H.map rl)) (FK v H)) (k : ∀ u H', Sm g (f u (H'.map rl)) (fK u H')) : Sm g (bnd2 (F v (H.map rl)) f) (bndK (FK v H) fK) := by
  intro x H1 e
  cases hq : FK v H with
  | none => rw [hq] at e; cases e
  | some q =>
    rw [hq] at e
    rw [hF v H q.1 q.2 hq]
    exact k q.1 q.2 x H1 e
theorem s_pf {α : Type} {g : α → AHeap → Option (α × AHeap)} {H : KHeap} {a ci j : Nat} {v : Value} {f : AHeap → Option (α × AHeap)} {fK : KHeap → Option (α × KHeap)} (k : ∀ H', Sm g (f (H'.map rl)) (fK H')) : Sm g ((pfV (H.map rl) a ci j v).bind f) ((pfK H a ci j v).bind fK) := by
  intro x H1 e
  unfold pfK at e
  split at e
  · rename_i o ho
    by_cases hc : o.1 = ci ∧ j < o.2.length
    · rw [if_pos hc] at e
      have e2 := k _ x H1 e
      rw [← e2]
      unfold pfV
      rw [rl_get ho]
      show (if o.1 = ci ∧ j < o.2.length then some ((H.map rl).set a (.inl (ci, o.2.set j v))) else none).bind f = _
      rw [if_pos hc, List.map_set]
      rfl
    · rw [if_neg hc] at e
      cases e
  · cases e
theorem gvK_s {H : KHeap} {a ci j : Nat} {v : Value} (h : gvK H a ci j = some v) : gfV (H.map rl) a ci j = some v := by
  unfold gvK at h
  split at h
  · rename_i ha
    split at h
    · rename_i o ho
      unfold gfV cAt
      rw [if_pos ha, rl_get ho]
      exact h
    · cases h
  · cases h
theorem s_gr {α : Type} {g : α → AHeap → Option (α × AHeap)} {H : KHeap} {a ci j : Nat} {f : Nat → Option (α × AHeap)} {fK : Nat → Option (α × KHeap)} (k : ∀ r, Sm g (f r) (fK r)) : Sm g ((gfR (H.map rl) a ci j).bind f) ((grK H a ci j).bind fK) := by
  intro x H1 e
  unfold grK at e
  split at e
  · rename_i r hr
    have e2 := k r x H1 e
    rw [← e2]
    unfold gfR
    rw [gvK_s hr]
    rfl
  · cases e
theorem s_gi {α : Type} {g : α → AHeap → Option (α × AHeap)} {H : KHeap} {a ci j : Nat} {f : Int32 → Option (α × AHeap)} {fK : Int32 → Option (α × KHeap)} (k : ∀ r, Sm g (f r) (fK r)) : Sm g ((gfI (H.map rl) a ci j).bind f) ((giK H a ci j).bind fK) := by
  intro x H1 e
  unfold giK at e
  split at e
  · rename_i r hr
    have e2 := k r x H1 e
    rw [← e2]
    unfold gfI
    rw [gvK_s hr]
    rfl
  · cases e
theorem s_eqc {α : Type} {g : α → AHeap → Option (α × AHeap)} {y c : Int32} {f : Unit → Option (α × AHeap)} {fK : Unit → Option (α × KHeap)} (k : ∀ r, Sm g (f r) (fK r)) : Sm g ((eqc y c).bind f) ((eqc y c).bind fK) := by
  intro x H1 e
  cases hq : eqc y c with
  | none => rw [hq] at e; cases e
  | some u => rw [hq] at e; exact k u x H1 e
theorem s_bz {α : Type} {g : α → AHeap → Option (α × AHeap)} {y : Int32} {f : Int32 → Option (α × AHeap)} {fK : Int32 → Option (α × KHeap)} (k : ∀ r, Sm g (f r) (fK r)) : Sm g ((bz y).bind f) ((bz y).bind fK) := by
  intro x H1 e
  cases hq : bz y with
  | none => rw [hq] at e; cases e
  | some u => rw [hq] at e; exact k u x H1 e
theorem s_chk {α : Type} {g : α → AHeap → Option (α × AHeap)} {H : KHeap} {a ci : Nat} {f : Unit → Option (α × AHeap)} {fK : Unit → Option (α × KHeap)} (k : ∀ r, Sm g (f r) (fK r)) : Sm g ((chk (H.map rl) a ci).bind f) ((chkK H a ci).bind fK) := by
  intro x H1 e
  unfold chkK at e
  split at e
  · rename_i o ho
    by_cases hc : o.1 = ci
    · rw [if_pos hc] at e
      have e2 := k () x H1 e
      rw [← e2]
      unfold chk
      rw [rl_get ho]
      show (if o.1 = ci then some () else none).bind f = _
      rw [if_pos hc]
      rfl
    · rw [if_neg hc] at e
      cases e
  · cases e
theorem s_as {α : Type} {g : α → AHeap → Option (α × AHeap)} {H : KHeap} {a : Nat} {i y : Int32} {f : AHeap → Option (α × AHeap)} {fK : KHeap → Option (α × KHeap)} (k : ∀ H', Sm g (f (H'.map rl)) (fK H')) : Sm g ((ast 0 (H.map rl) a i y).bind f) ((asK H a i y).bind fK) := by
  intro x H1 e
  unfold asK at e
  split at e
  · rename_i q hq
    by_cases hc : q.1 = 0 ∧ ¬ i < 0 ∧ i.toNatClampNeg < (exq q.2).length
    · rw [if_pos hc] at e
      have e2 := k _ x H1 e
      rw [← e2]
      unfold ast
      rw [rl_get hq]
      show (if q.1 = 0 ∧ ¬ i < 0 ∧ i.toNatClampNeg < (exq q.2).length then some ((H.map rl).set a (.inr (.inl (0, (exq q.2).set i.toNatClampNeg y)))) else none).bind f = _
      rw [if_pos hc, List.map_set]
      rfl
    · rw [if_neg hc] at e
      cases e
  · cases e
theorem s_ar {α : Type} {g : α → AHeap → Option (α × AHeap)} {H : KHeap} {a q : Nat} {i : Int32} {f : AHeap → Option (α × AHeap)} {fK : KHeap → Option (α × KHeap)} (k : ∀ H', Sm g (f (H'.map rl)) (fK H')) : Sm g ((astR (H.map rl) a i q).bind f) ((arK H a i q).bind fK) := by
  intro x H1 e
  unfold arK at e
  split at e
  · rename_i rs o hr ho
    by_cases hc : o.1 = 8 ∧ ¬ i < 0 ∧ i.toNatClampNeg < rs.length
    · rw [if_pos hc] at e
      have e2 := k _ x H1 e
      rw [← e2]
      unfold astR
      rw [rl_get hr, rl_get ho]
      show (if o.1 = 8 ∧ ¬ i < 0 ∧ i.toNatClampNeg < rs.length then some ((H.map rl).set a (.inr (.inr (rs.set i.toNatClampNeg (some q))))) else none).bind f = _
      rw [if_pos hc, List.map_set]
      rfl
    · rw [if_neg hc] at e
      cases e
  · cases e
/-- an array filled, in any heap -/
theorem fill_h {h : AHeap} {a : Nat} {x : Int32} {xs : List Int32} (ha : a < FB) (hg : h[a]? = some (.inr (.inl (0, xs)))) (hl : xs.length < 1000000) : J7_fill a x h = some ((), h.set a (.inr (.inl (0, List.replicate xs.length x)))) := by
  have hal : a < h.length := (List.getElem?_eq_some_iff.mp hg).1
  have hit : iter (J7_fill_b5 a x (nI xs.length)) Lmax (0, h) = some (nI xs.length, h.set a (.inr (.inl (0, List.replicate xs.length x)))) := by
    have key := iter_L (body := J7_fill_b5 a x (nI xs.length)) (fun j => (nI j, h.set a (.inr (.inl (0, List.replicate j x ++ xs.drop j))))) xs.length (q := (nI xs.length, h.set a (.inr (.inl (0, List.replicate xs.length x))))) hl ?_ ?_
    · have e0 : h.set a (.inr (.inl (0, List.replicate 0 x ++ xs.drop 0))) = h := by
        apply List.ext_getElem?
        intro j
        rw [List.getElem?_set]
        by_cases hj : a = j
        · subst hj
          rw [if_pos rfl, if_pos hal, hg]
          rfl
        · rw [if_neg hj]
      simp only [e0] at key
      exact key
    · intro j hj
      have hc : ¬ nI xs.length ≤ nI j := nI_ge hj (by omega)
      have hlen : j < (List.replicate j x ++ xs.drop j).length := by rw [List.length_append, List.length_replicate, List.length_drop]; omega
      have hg2 : (h.set a (.inr (.inl (0, List.replicate j x ++ xs.drop j))))[a]? = some (.inr (.inl (0, List.replicate j x ++ xs.drop j))) := by
        rw [List.getElem?_set, if_pos rfl, if_pos hal]
      have eL : (List.replicate j x ++ xs.drop j).set j (nar 0 x) = List.replicate (j + 1) x ++ xs.drop (j + 1) := by
        rw [List.set_append_right _ _ (by simp), List.length_replicate, Nat.sub_self]
        simp only [nar, if_true, List.replicate_succ', List.append_assoc, List.append_cancel_left_eq]
        rw [List.drop_eq_getElem_cons hj]
        rfl
      have ea : ast 0 (h.set a (.inr (.inl (0, List.replicate j x ++ xs.drop j)))) a (nI j) x = some (h.set a (.inr (.inl (0, List.replicate (j + 1) x ++ xs.drop (j + 1))))) := by
        unfold ast
        rw [hg2]
        show (if (0 : Nat) = 0 ∧ ¬ nI j < 0 ∧ (nI j).toNatClampNeg < (List.replicate j x ++ xs.drop j).length then some ((h.set a (.inr (.inl (0, List.replicate j x ++ xs.drop j)))).set a (.inr (.inl (0, (List.replicate j x ++ xs.drop j).set (nI j).toNatClampNeg (nar 0 x))))) else none) = _
        rw [nI_clamp (by omega), if_pos ⟨rfl, nI_pos (by omega), hlen⟩, eL, List.set_set]
      simp only [J7_fill_b5, if_neg hc, ea, Option.bind_some, nI_1]
    · have hc : nI xs.length ≤ nI xs.length := nI_le (Nat.le_refl _) (by omega)
      simp only [J7_fill_b5, if_pos hc]
      simp
  have hal2 : alen h a = some (nI xs.length) := by
    unfold alen cAt
    rw [if_pos ha, hg]
    rfl
  simp only [J7_fill, hal2, Option.bind_some, hit, J7_fill_j20]
theorem s_fill {α : Type} {g : α → AHeap → Option (α × AHeap)} {H : KHeap} {a : Nat} {y : Int32} {f : Unit → AHeap → Option (α × AHeap)} {fK : Unit → KHeap → Option (α × KHeap)} (k : ∀ u H', Sm g (f u (H'.map rl)) (fK u H')) : Sm g (bnd2 (J7_fill a y (H.map rl)) f) (bndK (fillK a y H) fK) := by
  intro x H1 e
  unfold fillK at e
  split at e
  · rename_i q hq
    by_cases hc : q.1 = 0 ∧ a < FB ∧ lnq q.2 < 1000000
    · rw [if_pos hc] at e
      have e2 := k () _ x H1 e
      rw [← e2]
      have hg : (H.map rl)[a]? = some (.inr (.inl (0, exq q.2))) := by
        rw [rl_get hq]
        show some (Sum.inr (Sum.inl (q.1, exq q.2))) = _
        rw [hc.1]
      rw [fill_h hc.2.1 hg (by rw [exq_len]; exact hc.2.2), bnd2_some, List.map_set, exq_len]
      rfl
    · rw [if_neg hc] at e
      cases e
  · cases e
def Prog_initK (v0 : Nat) (h : KHeap) : Option (Unit × KHeap) :=
  bndK (alcK h (.inr (.inl (0, .inl (4, 0))))) fun a1 h2 => (pfK h2 v0 6 3 (.ref a1)).bind fun h3 => bndK (alcK h3 (.inr (.inl (0, .inl (4, 0))))) fun a4 h5 => (pfK h5 v0 6 4 (.ref a4)).bind fun h6 => bndK (alcK h6 (.inr (.inl (0, .inl (4, 0))))) fun a7 h8 => (pfK h8 v0 6 5 (.ref a7)).bind fun h9 => bndK (alcK h9 (.inr (.inl (0, .inl (24, 0))))) fun a10 h11 => (pfK h11 v0 6 6 (.ref a10)).bind fun h12 => bndK (alcK h12 (.inr (.inl (0, .inl (4, 0))))) fun a13 h14 => (pfK h14 v0 6 7 (.ref a13)).bind fun h15 => bndK (alcK h15 (.inr (.inl (0, .inl (24, 0))))) fun a16 h17 => (pfK h17 v0 6 8 (.ref a16)).bind fun h18 => (grK h18 v0 6 6).bind fun a19 => bndK (fillK a19 (-1) h18) fun _ h20 => some ((), h20)
theorem Prog_init_s (v : Nat) (H : KHeap) : Sm rt (Prog_init v (H.map rl)) (Prog_initK v H) := by
  unfold Prog_init Prog_initK
  repeat (first | exact s_ret | refine s_alc rfl (fun _ _ => ?_) | refine s_pf (fun _ => ?_) | refine s_gr (fun _ => ?_) | refine s_fill (fun _ _ => ?_))
def Cuts_init40K (v0 : Nat) (h : KHeap) : Option (Unit × KHeap) :=
  (pfK h v0 2 0 (.int 40)).bind fun h1 => (giK h1 v0 2 0).bind fun x2 => (eqc x2 40).bind fun _ => bndK (alcK h1 (.inr (.inl (0, .inl (40, 0))))) fun a3 h4 => (pfK h4 v0 2 2 (.ref a3)).bind fun h5 => (giK h5 v0 2 0).bind fun x6 => (eqc x6 40).bind fun _ => bndK (alcK h5 (.inr (.inl (0, .inl (40, 0))))) fun a7 h8 => (pfK h8 v0 2 3 (.ref a7)).bind fun h9 => (giK h9 v0 2 0).bind fun x10 => (eqc x10 40).bind fun _ => bndK (alcK h9 (.inr (.inl (0, .inl (40, 0))))) fun a11 h12 => (pfK h12 v0 2 4 (.ref a11)).bind fun h13 => (giK h13 v0 2 0).bind fun x14 => (eqc x14 40).bind fun _ => bndK (alcK h13 (.inr (.inl (0, .inl (160, 0))))) fun a15 h16 => (pfK h16 v0 2 5 (.ref a15)).bind fun h17 => (giK h17 v0 2 0).bind fun x18 => (eqc x18 40).bind fun _ => bndK (alcK h17 (.inr (.inl (0, .inl (240, 0))))) fun a19 h20 => (pfK h20 v0 2 6 (.ref a19)).bind fun h21 => some ((), h21)
theorem Cuts_init40_s (v : Nat) (H : KHeap) : Sm rt (Cuts_init40 v (H.map rl)) (Cuts_init40K v H) := by
  unfold Cuts_init40 Cuts_init40K
  repeat (first | exact s_ret | refine s_alc rfl (fun _ _ => ?_) | refine s_pf (fun _ => ?_) | refine s_gi (fun _ => ?_) | refine s_eqc (fun _ => ?_))
def Cuts_init99K (v0 : Nat) (h : KHeap) : Option (Unit × KHeap) :=
  (pfK h v0 2 0 (.int 99)).bind fun h1 => (giK h1 v0 2 0).bind fun x2 => (eqc x2 99).bind fun _ => bndK (alcK h1 (.inr (.inl (0, .inl (99, 0))))) fun a3 h4 => (pfK h4 v0 2 2 (.ref a3)).bind fun h5 => (giK h5 v0 2 0).bind fun x6 => (eqc x6 99).bind fun _ => bndK (alcK h5 (.inr (.inl (0, .inl (99, 0))))) fun a7 h8 => (pfK h8 v0 2 3 (.ref a7)).bind fun h9 => (giK h9 v0 2 0).bind fun x10 => (eqc x10 99).bind fun _ => bndK (alcK h9 (.inr (.inl (0, .inl (99, 0))))) fun a11 h12 => (pfK h12 v0 2 4 (.ref a11)).bind fun h13 => (giK h13 v0 2 0).bind fun x14 => (eqc x14 99).bind fun _ => bndK (alcK h13 (.inr (.inl (0, .inl (396, 0))))) fun a15 h16 => (pfK h16 v0 2 5 (.ref a15)).bind fun h17 => (giK h17 v0 2 0).bind fun x18 => (eqc x18 99).bind fun _ => bndK (alcK h17 (.inr (.inl (0, .inl (594, 0))))) fun a19 h20 => (pfK h20 v0 2 6 (.ref a19)).bind fun h21 => some ((), h21)
theorem Cuts_init99_s (v : Nat) (H : KHeap) : Sm rt (Cuts_init99 v (H.map rl)) (Cuts_init99K v H) := by
  unfold Cuts_init99 Cuts_init99K
  repeat (first | exact s_ret | refine s_alc rfl (fun _ _ => ?_) | refine s_pf (fun _ => ?_) | refine s_gi (fun _ => ?_) | refine s_eqc (fun _ => ?_))
def Srch_initK (v0 : Nat) (h : KHeap) : Option (Unit × KHeap) :=
  (pfK h v0 7 1 (.int (-1))).bind fun h1 => (pfK h1 v0 7 2 (.int (-1))).bind fun h2 => (pfK h2 v0 7 3 (.int (-1))).bind fun h3 => (pfK h3 v0 7 4 (.int (-1))).bind fun h4 => some ((), h4)
theorem Srch_init_s (v : Nat) (H : KHeap) : Sm rt (Srch_init v (H.map rl)) (Srch_initK v H) := by
  unfold Srch_init Srch_initK
  repeat (first | exact s_ret | refine s_alc rfl (fun _ _ => ?_) | refine s_pf (fun _ => ?_))
def Stat_initK (v0 : Nat) (h : KHeap) : Option (Unit × KHeap) :=
  bndK (alcK h (.inl (6, [.int 0, .int 0, .int 0, .null, .null, .null, .null, .null, .null]))) fun a1 h2 => bndK (Prog_initK a1 h2) fun _ h3 => (pfK h3 v0 8 0 (.ref a1)).bind fun h4 => bndK (alcK h4 (.inl (2, [.int 0, .int 0, .null, .null, .null, .null, .null]))) fun a5 h6 => bndK (Cuts_init40K a5 h6) fun _ h7 => (pfK h7 v0 8 1 (.ref a5)).bind fun h8 => bndK (alcK h8 (.inl (7, [.int 0, .int 0, .int 0, .int 0, .int 0, .int 0, .int 0]))) fun a9 h10 => bndK (Srch_initK a9 h10) fun _ h11 => (pfK h11 v0 8 2 (.ref a9)).bind fun h12 => some ((), h12)
theorem Stat_init_s (v : Nat) (H : KHeap) : Sm rt (Stat_init v (H.map rl)) (Stat_initK v H) := by
  unfold Stat_init Stat_initK
  repeat (first | exact s_ret | refine s_alc rfl (fun _ _ => ?_) | refine s_pf (fun _ => ?_) | refine s_call Prog_init_s (fun _ _ => ?_) | refine s_call Cuts_init40_s (fun _ _ => ?_) | refine s_call Srch_init_s (fun _ _ => ?_))
def Frt_initK (v0 : Nat) (h : KHeap) : Option (Unit × KHeap) :=
  bndK (alcK h (.inr (.inl (0, .inl (4, 0))))) fun a1 h2 => (pfK h2 v0 4 0 (.ref a1)).bind fun h3 => bndK (alcK h3 (.inr (.inl (0, .inl (16, 0))))) fun a4 h5 => (pfK h5 v0 4 1 (.ref a4)).bind fun h6 => bndK (alcK h6 (.inr (.inl (0, .inl (64, 0))))) fun a7 h8 => (pfK h8 v0 4 2 (.ref a7)).bind fun h9 => bndK (alcK h9 (.inr (.inl (1, .inl (4, 0))))) fun a10 h11 => (pfK h11 v0 4 3 (.ref a10)).bind fun h12 => bndK (alcK h12 (.inr (.inl (0, .inl (4, 0))))) fun a13 h14 => (pfK h14 v0 4 4 (.ref a13)).bind fun h15 => bndK (alcK h15 (.inr (.inl (0, .inl (24, 0))))) fun a16 h17 => (pfK h17 v0 4 5 (.ref a16)).bind fun h18 => bndK (alcK h18 (.inr (.inl (0, .inl (16, 0))))) fun a19 h20 => (pfK h20 v0 4 6 (.ref a19)).bind fun h21 => bndK (alcK h21 (.inr (.inl (0, .inl (16, 0))))) fun a22 h23 => (pfK h23 v0 4 7 (.ref a22)).bind fun h24 => bndK (alcK h24 (.inr (.inl (0, .inl (4, 0))))) fun a25 h26 => (pfK h26 v0 4 8 (.ref a25)).bind fun h27 => bndK (alcK h27 (.inr (.inl (0, .inl (4, 0))))) fun a28 h29 => (pfK h29 v0 4 9 (.ref a28)).bind fun h30 => bndK (alcK h30 (.inr (.inl (0, .inl (4, 0))))) fun a31 h32 => (pfK h32 v0 4 10 (.ref a31)).bind fun h33 => bndK (alcK h33 (.inr (.inl (0, .inl (6, 0))))) fun a34 h35 => (pfK h35 v0 4 11 (.ref a34)).bind fun h36 => some ((), h36)
theorem Frt_init_s (v : Nat) (H : KHeap) : Sm rt (Frt_init v (H.map rl)) (Frt_initK v H) := by
  unfold Frt_init Frt_initK
  repeat (first | exact s_ret | refine s_alc rfl (fun _ _ => ?_) | refine s_pf (fun _ => ?_))
def Book_initK (v0 : Nat) (h : KHeap) : Option (Unit × KHeap) :=
  bndK (alcK h (.inl (4, [.null, .null, .null, .null, .null, .null, .null, .null, .null, .null, .null, .null]))) fun a1 h2 => bndK (Frt_initK a1 h2) fun _ h3 => (pfK h3 v0 0 0 (.ref a1)).bind fun h4 => bndK (alcK h4 (.inr (.inl (0, .inl (1024, 0))))) fun a5 h6 => (pfK h6 v0 0 1 (.ref a5)).bind fun h7 => (grK h7 v0 0 1).bind fun a8 => bndK (fillK a8 (-2) h7) fun _ h9 => some ((), h9)
theorem Book_init_s (v : Nat) (H : KHeap) : Sm rt (Book_init v (H.map rl)) (Book_initK v H) := by
  unfold Book_init Book_initK
  repeat (first | exact s_ret | refine s_alc rfl (fun _ _ => ?_) | refine s_pf (fun _ => ?_) | refine s_gr (fun _ => ?_) | refine s_fill (fun _ _ => ?_) | refine s_call Frt_init_s (fun _ _ => ?_))
def Bnds_initK (v0 : Nat) (h : KHeap) : Option (Unit × KHeap) :=
  (bz 1).bind fun x2 => (pfK h v0 1 0 (.int x2)).bind fun h1 => bndK (alcK h1 (.inr (.inl (0, .inl (1024, 0))))) fun a3 h4 => (pfK h4 v0 1 1 (.ref a3)).bind fun h5 => bndK (alcK h5 (.inr (.inl (1, .inl (256, 0))))) fun a6 h7 => (pfK h7 v0 1 2 (.ref a6)).bind fun h8 => some ((), h8)
theorem Bnds_init_s (v : Nat) (H : KHeap) : Sm rt (Bnds_init v (H.map rl)) (Bnds_initK v H) := by
  unfold Bnds_init Bnds_initK
  repeat (first | exact s_ret | refine s_alc rfl (fun _ _ => ?_) | refine s_pf (fun _ => ?_) | refine s_bz (fun _ => ?_))
def Eng_initK (v0 : Nat) (h : KHeap) : Option (Unit × KHeap) :=
  bndK (alcK h (.inl (0, [.null, .null]))) fun a1 h2 => bndK (Book_initK a1 h2) fun _ h3 => (pfK h3 v0 3 0 (.ref a1)).bind fun h4 => bndK (alcK h4 (.inl (1, [.int 0, .null, .null]))) fun a5 h6 => bndK (Bnds_initK a5 h6) fun _ h7 => (pfK h7 v0 3 1 (.ref a5)).bind fun h8 => bndK (alcK h8 (.inr (.inl (0, .inl (4, 0))))) fun a9 h10 => (pfK h10 v0 3 2 (.ref a9)).bind fun h11 => bndK (alcK h11 (.inr (.inl (0, .inl (4, 0))))) fun a12 h13 => (pfK h13 v0 3 3 (.ref a12)).bind fun h14 => bndK (alcK h14 (.inr (.inl (1, .inl (4, 0))))) fun a15 h16 => (pfK h16 v0 3 4 (.ref a15)).bind fun h17 => bndK (alcK h17 (.inr (.inl (0, .inl (99, 0))))) fun a18 h19 => (pfK h19 v0 3 5 (.ref a18)).bind fun h20 => some ((), h20)
theorem Eng_init_s (v : Nat) (H : KHeap) : Sm rt (Eng_init v (H.map rl)) (Eng_initK v H) := by
  unfold Eng_init Eng_initK
  repeat (first | exact s_ret | refine s_alc rfl (fun _ _ => ?_) | refine s_pf (fun _ => ?_) | refine s_call Book_init_s (fun _ _ => ?_) | refine s_call Bnds_init_s (fun _ _ => ?_))
def Tape_initK (v0 : Nat) (h : KHeap) : Option (Unit × KHeap) :=
  bndK (alcK h (.inr (.inl (2, .inl (400, 0))))) fun a1 h2 => (pfK h2 v0 9 0 (.ref a1)).bind fun h3 => (pfK h3 v0 9 2 (.int (-1))).bind fun h4 => some ((), h4)
theorem Tape_init_s (v : Nat) (H : KHeap) : Sm rt (Tape_init v (H.map rl)) (Tape_initK v H) := by
  unfold Tape_init Tape_initK
  repeat (first | exact s_ret | refine s_alc rfl (fun _ _ => ?_) | refine s_pf (fun _ => ?_))
def Hist_initK (v0 : Nat) (h : KHeap) : Option (Unit × KHeap) :=
  bndK (alcK h (.inr (.inr (List.replicate 12 none)))) fun a1 h2 => (pfK h2 v0 5 0 (.ref a1)).bind fun h3 => bndK (alcK h3 (.inr (.inl (0, .inl (12, 0))))) fun a4 h5 => (pfK h5 v0 5 1 (.ref a4)).bind fun h6 => (grK h6 v0 5 0).bind fun a7 => bndK (alcK h6 (.inl (8, [.null, .null, .null]))) fun a8 h9 => bndK (Stat_initK a8 h9) fun _ h10 => (arK h10 a7 0 a8).bind fun h11 => (grK h11 v0 5 0).bind fun a12 => bndK (alcK h11 (.inl (8, [.null, .null, .null]))) fun a13 h14 => bndK (Stat_initK a13 h14) fun _ h15 => (arK h15 a12 (0 + 1) a13).bind fun h16 => (grK h16 v0 5 0).bind fun a17 => bndK (alcK h16 (.inl (8, [.null, .null, .null]))) fun a18 h19 => bndK (Stat_initK a18 h19) fun _ h20 => (arK h20 a17 ((0 + 1) + 1) a18).bind fun h21 => (grK h21 v0 5 0).bind fun a22 => bndK (alcK h21 (.inl (8, [.null, .null, .null]))) fun a23 h24 => bndK (Stat_initK a23 h24) fun _ h25 => (arK h25 a22 (((0 + 1) + 1) + 1) a23).bind fun h26 => (grK h26 v0 5 0).bind fun a27 => bndK (alcK h26 (.inl (8, [.null, .null, .null]))) fun a28 h29 => bndK (Stat_initK a28 h29) fun _ h30 => (arK h30 a27 ((((0 + 1) + 1) + 1) + 1) a28).bind fun h31 => (grK h31 v0 5 0).bind fun a32 => bndK (alcK h31 (.inl (8, [.null, .null, .null]))) fun a33 h34 => bndK (Stat_initK a33 h34) fun _ h35 => (arK h35 a32 (((((0 + 1) + 1) + 1) + 1) + 1) a33).bind fun h36 => (grK h36 v0 5 0).bind fun a37 => bndK (alcK h36 (.inl (8, [.null, .null, .null]))) fun a38 h39 => bndK (Stat_initK a38 h39) fun _ h40 => (arK h40 a37 ((((((0 + 1) + 1) + 1) + 1) + 1) + 1) a38).bind fun h41 => (grK h41 v0 5 0).bind fun a42 => bndK (alcK h41 (.inl (8, [.null, .null, .null]))) fun a43 h44 => bndK (Stat_initK a43 h44) fun _ h45 => (arK h45 a42 (((((((0 + 1) + 1) + 1) + 1) + 1) + 1) + 1) a43).bind fun h46 => (grK h46 v0 5 0).bind fun a47 => bndK (alcK h46 (.inl (8, [.null, .null, .null]))) fun a48 h49 => bndK (Stat_initK a48 h49) fun _ h50 => (arK h50 a47 ((((((((0 + 1) + 1) + 1) + 1) + 1) + 1) + 1) + 1) a48).bind fun h51 => (grK h51 v0 5 0).bind fun a52 => bndK (alcK h51 (.inl (8, [.null, .null, .null]))) fun a53 h54 => bndK (Stat_initK a53 h54) fun _ h55 => (arK h55 a52 (((((((((0 + 1) + 1) + 1) + 1) + 1) + 1) + 1) + 1) + 1) a53).bind fun h56 => (grK h56 v0 5 0).bind fun a57 => bndK (alcK h56 (.inl (8, [.null, .null, .null]))) fun a58 h59 => bndK (Stat_initK a58 h59) fun _ h60 => (arK h60 a57 ((((((((((0 + 1) + 1) + 1) + 1) + 1) + 1) + 1) + 1) + 1) + 1) a58).bind fun h61 => (grK h61 v0 5 0).bind fun a62 => bndK (alcK h61 (.inl (8, [.null, .null, .null]))) fun a63 h64 => bndK (Stat_initK a63 h64) fun _ h65 => (arK h65 a62 (((((((((((0 + 1) + 1) + 1) + 1) + 1) + 1) + 1) + 1) + 1) + 1) + 1) a63).bind fun h66 => some ((), h66)
theorem Hist_init_s (v : Nat) (H : KHeap) : Sm rt (Hist_init v (H.map rl)) (Hist_initK v H) := by
  unfold Hist_init Hist_initK
  repeat (first | exact s_ret | refine s_alc rfl (fun _ _ => ?_) | refine s_pf (fun _ => ?_) | refine s_gr (fun _ => ?_) | refine s_ar (fun _ => ?_) | refine s_call Stat_init_s (fun _ _ => ?_))
def Sp_initK (v0 : Nat) (h : KHeap) : Option (Unit × KHeap) :=
  bndK (alcK h (.inl (8, [.null, .null, .null]))) fun a1 h2 => bndK (Stat_initK a1 h2) fun _ h3 => (pfK h3 v0 10 0 (.ref a1)).bind fun h4 => bndK (alcK h4 (.inr (.inl (0, .inl (4, 0))))) fun a5 h6 => (pfK h6 v0 10 1 (.ref a5)).bind fun h7 => bndK (alcK h7 (.inl (3, [.null, .null, .null, .null, .null, .null, .int 0, .int 0, .int 0, .int 0, .int 0, .int 0]))) fun a8 h9 => bndK (Eng_initK a8 h9) fun _ h10 => (pfK h10 v0 10 2 (.ref a8)).bind fun h11 => bndK (alcK h11 (.inl (9, [.null, .int 0, .int 0, .int 0, .int 0, .int 0]))) fun a12 h13 => bndK (Tape_initK a12 h13) fun _ h14 => (pfK h14 v0 10 3 (.ref a12)).bind fun h15 => bndK (alcK h15 (.inl (6, [.int 0, .int 0, .int 0, .null, .null, .null, .null, .null, .null]))) fun a16 h17 => bndK (Prog_initK a16 h17) fun _ h18 => (pfK h18 v0 10 4 (.ref a16)).bind fun h19 => bndK (alcK h19 (.inl (5, [.null, .null, .int 0, .int 0]))) fun a20 h21 => bndK (Hist_initK a20 h21) fun _ h22 => (pfK h22 v0 10 5 (.ref a20)).bind fun h23 => bndK (alcK h23 (.inr (.inr (List.replicate 2 none)))) fun a24 h25 => (pfK h25 v0 10 6 (.ref a24)).bind fun h26 => bndK (alcK h26 (.inr (.inl (0, .inl (8, 0))))) fun a27 h28 => (pfK h28 v0 10 7 (.ref a27)).bind fun h29 => bndK (alcK h29 (.inr (.inl (1, .inl (2, 0))))) fun a30 h31 => (pfK h31 v0 10 8 (.ref a30)).bind fun h32 => bndK (alcK h32 (.inl (2, [.int 0, .int 0, .null, .null, .null, .null, .null]))) fun a33 h34 => bndK (Cuts_init99K a33 h34) fun _ h35 => (pfK h35 v0 10 9 (.ref a33)).bind fun h36 => bndK (alcK h36 (.inl (7, [.int 0, .int 0, .int 0, .int 0, .int 0, .int 0, .int 0]))) fun a37 h38 => bndK (Srch_initK a37 h38) fun _ h39 => (pfK h39 v0 10 10 (.ref a37)).bind fun h40 => bndK (alcK h40 (.inr (.inl (0, .inl (4, 0))))) fun a41 h42 => (pfK h42 v0 10 11 (.ref a41)).bind fun h43 => bndK (alcK h43 (.inr (.inl (0, .inl (6, 0))))) fun a44 h45 => (pfK h45 v0 10 12 (.ref a44)).bind fun h46 => (grK h46 v0 10 1).bind fun a47 => (asK h46 a47 3 40).bind fun h48 => (grK h48 v0 10 6).bind fun a49 => bndK (alcK h48 (.inl (8, [.null, .null, .null]))) fun a50 h51 => bndK (Stat_initK a50 h51) fun _ h52 => (arK h52 a49 0 a50).bind fun h53 => (grK h53 v0 10 6).bind fun a54 => bndK (alcK h53 (.inl (8, [.null, .null, .null]))) fun a55 h56 => bndK (Stat_initK a55 h56) fun _ h57 => (arK h57 a54 (0 + 1) a55).bind fun h58 => some ((), h58)
theorem Sp_init_s (v : Nat) (H : KHeap) : Sm rt (Sp_init v (H.map rl)) (Sp_initK v H) := by
  unfold Sp_init Sp_initK
  repeat (first | exact s_ret | refine s_alc rfl (fun _ _ => ?_) | refine s_pf (fun _ => ?_) | refine s_gr (fun _ => ?_) | refine s_as (fun _ => ?_) | refine s_ar (fun _ => ?_) | refine s_call Prog_init_s (fun _ _ => ?_) | refine s_call Cuts_init99_s (fun _ _ => ?_) | refine s_call Srch_init_s (fun _ _ => ?_) | refine s_call Stat_init_s (fun _ _ => ?_) | refine s_call Eng_init_s (fun _ _ => ?_) | refine s_call Tape_init_s (fun _ _ => ?_) | refine s_call Hist_init_s (fun _ _ => ?_))
def Mod_initK (v0 : Nat) (h : KHeap) : Option (Unit × KHeap) :=
  bndK (alcK h (.inr (.inl (0, .inl (7, 0))))) fun a1 h2 => (pfK h2 v0 11 1 (.ref a1)).bind fun h3 => bndK (alcK h3 (.inr (.inl (0, .inl (4, 0))))) fun a4 h5 => (asK h5 a4 0 0).bind fun h6 => (asK h6 a4 1 0).bind fun h7 => (asK h7 a4 2 0).bind fun h8 => (asK h8 a4 3 40).bind fun h9 => (pfK h9 v0 11 2 (.ref a4)).bind fun h10 => bndK (alcK h10 (.inr (.inl (0, .inl (4, 0))))) fun a11 h12 => (asK h12 a11 0 0).bind fun h13 => (asK h13 a11 1 0).bind fun h14 => (asK h14 a11 2 0).bind fun h15 => (asK h15 a11 3 4).bind fun h16 => (pfK h16 v0 11 3 (.ref a11)).bind fun h17 => bndK (alcK h17 (.inr (.inl (0, .inl (4, 0))))) fun a18 h19 => (asK h19 a18 0 1).bind fun h20 => (asK h20 a18 1 9).bind fun h21 => (asK h21 a18 2 1000).bind fun h22 => (asK h22 a18 3 40).bind fun h23 => (pfK h23 v0 11 4 (.ref a18)).bind fun h24 => bndK (alcK h24 (.inr (.inl (0, .inl (1427, 0))))) fun a25 h26 => (pfK h26 v0 11 5 (.ref a25)).bind fun h27 => bndK (alcK h27 (.inr (.inl (0, .inl (1427, 0))))) fun a28 h29 => (pfK h29 v0 11 6 (.ref a28)).bind fun h30 => bndK (alcK h30 (.inr (.inl (0, .inl (1427, 0))))) fun a31 h32 => (pfK h32 v0 11 7 (.ref a31)).bind fun h33 => bndK (alcK h33 (.inr (.inl (0, .inl (400, 0))))) fun a34 h35 => (pfK h35 v0 11 8 (.ref a34)).bind fun h36 => (pfK h36 v0 11 10 (.int (-1))).bind fun h37 => bndK (alcK h37 (.inr (.inl (0, .inl (17124, 0))))) fun a38 h39 => (pfK h39 v0 11 11 (.ref a38)).bind fun h40 => bndK (alcK h40 (.inr (.inl (0, .inl (12, 0))))) fun a41 h42 => (pfK h42 v0 11 12 (.ref a41)).bind fun h43 => bndK (alcK h43 (.inr (.inl (0, .inl (2862, 0))))) fun a44 h45 => (pfK h45 v0 11 15 (.ref a44)).bind fun h46 => bndK (alcK h46 (.inr (.inl (1, .inl (2, 0))))) fun a47 h48 => (pfK h48 v0 11 16 (.ref a47)).bind fun h49 => bndK (alcK h49 (.inr (.inl (0, .inl (4, 0))))) fun a50 h51 => (pfK h51 v0 11 23 (.ref a50)).bind fun h52 => bndK (alcK h52 (.inr (.inl (0, .inl (6, 0))))) fun a53 h54 => (pfK h54 v0 11 24 (.ref a53)).bind fun h55 => bndK (alcK h55 (.inr (.inl (0, .inl (6, 0))))) fun a56 h57 => (pfK h57 v0 11 25 (.ref a56)).bind fun h58 => bndK (alcK h58 (.inr (.inl (0, .inl (52, 0))))) fun a59 h60 => (pfK h60 v0 11 26 (.ref a59)).bind fun h61 => bndK (alcK h61 (.inr (.inl (0, .inl (4, 0))))) fun a62 h63 => (pfK h63 v0 11 28 (.ref a62)).bind fun h64 => (chkK h64 v0 11).bind fun _ => some ((), h64)
theorem Mod_init_s (v : Nat) (H : KHeap) : Sm (fun _ h => bnd2 (Mod_empties v h) fun _ h65 => some ((), h65)) (Mod_init v (H.map rl)) (Mod_initK v H) := by
  unfold Mod_init Mod_initK
  repeat (first | exact fun y H' e => by cases e; rfl | refine s_alc rfl (fun _ _ => ?_) | refine s_pf (fun _ => ?_) | refine s_as (fun _ => ?_) | refine s_chk (fun _ => ?_))
