/-! worlds: the 292 cells by their shapes; what arrays hold (A), what int fields hold (F) -/
abbrev Shp : Type := (Nat × List (Option Nat)) ⊕ (Nat ⊕ List Nat)
def shp : List Shp := [.inl (10, [some 1, some 16, some 17, some 40, some 42, some 49, some 232, some 233, some 234, some 235, some 241, some 242, some 243, none]),
  .inl (8, [some 2, some 9, some 15]),
  .inl (6, [none, none, none, some 3, some 4, some 5, some 6, some 7, some 8]),
  .inr (.inl 0),
  .inr (.inl 0),
  .inr (.inl 0),
  .inr (.inl 0),
  .inr (.inl 0),
  .inr (.inl 0),
  .inl (2, [none, none, some 10, some 11, some 12, some 13, some 14]),
  .inr (.inl 0),
  .inr (.inl 0),
  .inr (.inl 0),
  .inr (.inl 0),
  .inr (.inl 0),
  .inl (7, [none, none, none, none, none, none, none]),
  .inr (.inl 0),
  .inl (3, [some 18, some 33, some 36, some 37, some 38, some 39, none, none, none, none, none, none]),
  .inl (0, [some 19, some 32]),
  .inl (4, [some 20, some 21, some 22, some 23, some 24, some 25, some 26, some 27, some 28, some 29, some 30, some 31]),
  .inr (.inl 0),
  .inr (.inl 0),
  .inr (.inl 0),
  .inr (.inl 1),
  .inr (.inl 0),
  .inr (.inl 0),
  .inr (.inl 0),
  .inr (.inl 0),
  .inr (.inl 0),
  .inr (.inl 0),
  .inr (.inl 0),
  .inr (.inl 0),
  .inr (.inl 0),
  .inl (1, [none, some 34, some 35]),
  .inr (.inl 0),
  .inr (.inl 1),
  .inr (.inl 0),
  .inr (.inl 0),
  .inr (.inl 1),
  .inr (.inl 0),
  .inl (9, [some 41, none, none, none, none, none]),
  .inr (.inl 2),
  .inl (6, [none, none, none, some 43, some 44, some 45, some 46, some 47, some 48]),
  .inr (.inl 0),
  .inr (.inl 0),
  .inr (.inl 0),
  .inr (.inl 0),
  .inr (.inl 0),
  .inr (.inl 0),
  .inl (5, [some 50, some 51, none, none]),
  .inr (.inr [52, 67, 82, 97, 112, 127, 142, 157, 172, 187, 202, 217]),
  .inr (.inl 0),
  .inl (8, [some 53, some 60, some 66]),
  .inl (6, [none, none, none, some 54, some 55, some 56, some 57, some 58, some 59]),
  .inr (.inl 0),
  .inr (.inl 0),
  .inr (.inl 0),
  .inr (.inl 0),
  .inr (.inl 0),
  .inr (.inl 0),
  .inl (2, [none, none, some 61, some 62, some 63, some 64, some 65]),
  .inr (.inl 0),
  .inr (.inl 0),
  .inr (.inl 0),
  .inr (.inl 0),
  .inr (.inl 0),
  .inl (7, [none, none, none, none, none, none, none]),
  .inl (8, [some 68, some 75, some 81]),
  .inl (6, [none, none, none, some 69, some 70, some 71, some 72, some 73, some 74]),
  .inr (.inl 0),
  .inr (.inl 0),
  .inr (.inl 0),
  .inr (.inl 0),
  .inr (.inl 0),
  .inr (.inl 0),
  .inl (2, [none, none, some 76, some 77, some 78, some 79, some 80]),
  .inr (.inl 0),
  .inr (.inl 0),
  .inr (.inl 0),
  .inr (.inl 0),
  .inr (.inl 0),
  .inl (7, [none, none, none, none, none, none, none]),
  .inl (8, [some 83, some 90, some 96]),
  .inl (6, [none, none, none, some 84, some 85, some 86, some 87, some 88, some 89]),
  .inr (.inl 0),
  .inr (.inl 0),
  .inr (.inl 0),
  .inr (.inl 0),
  .inr (.inl 0),
  .inr (.inl 0),
  .inl (2, [none, none, some 91, some 92, some 93, some 94, some 95]),
  .inr (.inl 0),
  .inr (.inl 0),
  .inr (.inl 0),
  .inr (.inl 0),
  .inr (.inl 0),
  .inl (7, [none, none, none, none, none, none, none]),
  .inl (8, [some 98, some 105, some 111]),
  .inl (6, [none, none, none, some 99, some 100, some 101, some 102, some 103, some 104]),
  .inr (.inl 0),
  .inr (.inl 0),
  .inr (.inl 0),
  .inr (.inl 0),
  .inr (.inl 0),
  .inr (.inl 0),
  .inl (2, [none, none, some 106, some 107, some 108, some 109, some 110]),
  .inr (.inl 0),
  .inr (.inl 0),
  .inr (.inl 0),
  .inr (.inl 0),
  .inr (.inl 0),
  .inl (7, [none, none, none, none, none, none, none]),
  .inl (8, [some 113, some 120, some 126]),
  .inl (6, [none, none, none, some 114, some 115, some 116, some 117, some 118, some 119]),
  .inr (.inl 0),
  .inr (.inl 0),
  .inr (.inl 0),
  .inr (.inl 0),
  .inr (.inl 0),
  .inr (.inl 0),
  .inl (2, [none, none, some 121, some 122, some 123, some 124, some 125]),
  .inr (.inl 0),
  .inr (.inl 0),
  .inr (.inl 0),
  .inr (.inl 0),
  .inr (.inl 0),
  .inl (7, [none, none, none, none, none, none, none]),
  .inl (8, [some 128, some 135, some 141]),
  .inl (6, [none, none, none, some 129, some 130, some 131, some 132, some 133, some 134]),
  .inr (.inl 0),
  .inr (.inl 0),
  .inr (.inl 0),
  .inr (.inl 0),
  .inr (.inl 0),
  .inr (.inl 0),
  .inl (2, [none, none, some 136, some 137, some 138, some 139, some 140]),
  .inr (.inl 0),
  .inr (.inl 0),
  .inr (.inl 0),
  .inr (.inl 0),
  .inr (.inl 0),
  .inl (7, [none, none, none, none, none, none, none]),
  .inl (8, [some 143, some 150, some 156]),
  .inl (6, [none, none, none, some 144, some 145, some 146, some 147, some 148, some 149]),
  .inr (.inl 0),
  .inr (.inl 0),
  .inr (.inl 0),
  .inr (.inl 0),
  .inr (.inl 0),
  .inr (.inl 0),
  .inl (2, [none, none, some 151, some 152, some 153, some 154, some 155]),
  .inr (.inl 0),
  .inr (.inl 0),
  .inr (.inl 0),
  .inr (.inl 0),
  .inr (.inl 0),
  .inl (7, [none, none, none, none, none, none, none]),
  .inl (8, [some 158, some 165, some 171]),
  .inl (6, [none, none, none, some 159, some 160, some 161, some 162, some 163, some 164]),
  .inr (.inl 0),
  .inr (.inl 0),
  .inr (.inl 0),
  .inr (.inl 0),
  .inr (.inl 0),
  .inr (.inl 0),
  .inl (2, [none, none, some 166, some 167, some 168, some 169, some 170]),
  .inr (.inl 0),
  .inr (.inl 0),
  .inr (.inl 0),
  .inr (.inl 0),
  .inr (.inl 0),
  .inl (7, [none, none, none, none, none, none, none]),
  .inl (8, [some 173, some 180, some 186]),
  .inl (6, [none, none, none, some 174, some 175, some 176, some 177, some 178, some 179]),
  .inr (.inl 0),
  .inr (.inl 0),
  .inr (.inl 0),
  .inr (.inl 0),
  .inr (.inl 0),
  .inr (.inl 0),
  .inl (2, [none, none, some 181, some 182, some 183, some 184, some 185]),
  .inr (.inl 0),
  .inr (.inl 0),
  .inr (.inl 0),
  .inr (.inl 0),
  .inr (.inl 0),
  .inl (7, [none, none, none, none, none, none, none]),
  .inl (8, [some 188, some 195, some 201]),
  .inl (6, [none, none, none, some 189, some 190, some 191, some 192, some 193, some 194]),
  .inr (.inl 0),
  .inr (.inl 0),
  .inr (.inl 0),
  .inr (.inl 0),
  .inr (.inl 0),
  .inr (.inl 0),
  .inl (2, [none, none, some 196, some 197, some 198, some 199, some 200]),
  .inr (.inl 0),
  .inr (.inl 0),
  .inr (.inl 0),
  .inr (.inl 0),
  .inr (.inl 0),
  .inl (7, [none, none, none, none, none, none, none]),
  .inl (8, [some 203, some 210, some 216]),
  .inl (6, [none, none, none, some 204, some 205, some 206, some 207, some 208, some 209]),
  .inr (.inl 0),
  .inr (.inl 0),
  .inr (.inl 0),
  .inr (.inl 0),
  .inr (.inl 0),
  .inr (.inl 0),
  .inl (2, [none, none, some 211, some 212, some 213, some 214, some 215]),
  .inr (.inl 0),
  .inr (.inl 0),
  .inr (.inl 0),
  .inr (.inl 0),
  .inr (.inl 0),
  .inl (7, [none, none, none, none, none, none, none]),
  .inl (8, [some 218, some 225, some 231]),
  .inl (6, [none, none, none, some 219, some 220, some 221, some 222, some 223, some 224]),
  .inr (.inl 0),
  .inr (.inl 0),
  .inr (.inl 0),
  .inr (.inl 0),
  .inr (.inl 0),
  .inr (.inl 0),
  .inl (2, [none, none, some 226, some 227, some 228, some 229, some 230]),
  .inr (.inl 0),
  .inr (.inl 0),
  .inr (.inl 0),
  .inr (.inl 0),
  .inr (.inl 0),
  .inl (7, [none, none, none, none, none, none, none]),
  .inr (.inr [244, 259]),
  .inr (.inl 0),
  .inr (.inl 1),
  .inl (2, [none, none, some 236, some 237, some 238, some 239, some 240]),
  .inr (.inl 0),
  .inr (.inl 0),
  .inr (.inl 0),
  .inr (.inl 0),
  .inr (.inl 0),
  .inl (7, [none, none, none, none, none, none, none]),
  .inr (.inl 0),
  .inr (.inl 0),
  .inl (8, [some 245, some 252, some 258]),
  .inl (6, [none, none, none, some 246, some 247, some 248, some 249, some 250, some 251]),
  .inr (.inl 0),
  .inr (.inl 0),
  .inr (.inl 0),
  .inr (.inl 0),
  .inr (.inl 0),
  .inr (.inl 0),
  .inl (2, [none, none, some 253, some 254, some 255, some 256, some 257]),
  .inr (.inl 0),
  .inr (.inl 0),
  .inr (.inl 0),
  .inr (.inl 0),
  .inr (.inl 0),
  .inl (7, [none, none, none, none, none, none, none]),
  .inl (8, [some 260, some 267, some 273]),
  .inl (6, [none, none, none, some 261, some 262, some 263, some 264, some 265, some 266]),
  .inr (.inl 0),
  .inr (.inl 0),
  .inr (.inl 0),
  .inr (.inl 0),
  .inr (.inl 0),
  .inr (.inl 0),
  .inl (2, [none, none, some 268, some 269, some 270, some 271, some 272]),
  .inr (.inl 0),
  .inr (.inl 0),
  .inr (.inl 0),
  .inr (.inl 0),
  .inr (.inl 0),
  .inl (7, [none, none, none, none, none, none, none]),
  .inl (11, [none, some 275, some 276, some 277, some 278, some 279, some 280, some 281, some 282, none, none, some 283, some 284, none, none, some 285, some 286, none, none, none, none, none, none, some 287, some 288, some 289, some 290, none, some 291]),
  .inr (.inl 0),
  .inr (.inl 0),
  .inr (.inl 0),
  .inr (.inl 0),
  .inr (.inl 0),
  .inr (.inl 0),
  .inr (.inl 0),
  .inr (.inl 0),
  .inr (.inl 0),
  .inr (.inl 0),
  .inr (.inl 0),
  .inr (.inl 1),
  .inr (.inl 0),
  .inr (.inl 0),
  .inr (.inl 0),
  .inr (.inl 0),
  .inr (.inl 0)]
def mkF (f : Nat → Int32) (k : Nat) (x : Option Nat) : Value := match x with
  | none => .int (f k)
  | some r => .ref r
def mkC (sh : Shp) (a : List Int32) (f : Nat → Int32) : ACell := match sh with
  | .inl o => .inl (o.1, o.2.mapIdx (mkF f))
  | .inr (.inl t) => .inr (.inl (t, a))
  | .inr (.inr rs) => .inr (.inr (rs.map some))
abbrev Wd : Type := (Nat → List Int32) × (Nat → Nat → Int32)
def hp (w : Wd) : AHeap := shp.mapIdx (fun i sh => mkC sh (w.1 i) (w.2 i))
def wA (w : Wd) (a : Nat) (xs : List Int32) : Wd := (fun i => if i = a then xs else w.1 i, w.2)
def wF (w : Wd) (a k : Nat) (x : Int32) : Wd := (w.1, fun i j => if i = a ∧ j = k then x else w.2 i j)
theorem hp_get {w : Wd} {i : Nat} {sh : Shp} (h : shp[i]? = some sh) : (hp w)[i]? = some (mkC sh (w.1 i) (w.2 i)) := by
  simp [hp, List.getElem?_mapIdx, h]
theorem shp_len : shp.length = 292 := by decide +kernel
theorem hp_len (w : Wd) : (hp w).length = 292 := by rw [hp, List.length_mapIdx, shp_len]
theorem shp_lt {i : Nat} {sh : Shp} (h : shp[i]? = some sh) : i < 292 := by
  have := (List.getElem?_eq_some_iff.mp h).1
  rwa [shp_len] at this
theorem shp_fb {i : Nat} {sh : Shp} (h : shp[i]? = some sh) : i < FB := Nat.lt_of_lt_of_le (shp_lt h) (Nat.le_of_ble_eq_true rfl)
theorem cAt_w {w : Wd} {i : Nat} {sh : Shp} (h : shp[i]? = some sh) : cAt (hp w) i = some (mkC sh (w.1 i) (w.2 i)) := by
  unfold cAt
  rw [if_pos (shp_fb h)]
  exact hp_get h
theorem gfI_w {w : Wd} {a ci k : Nat} {fs : List (Option Nat)} (h : shp[a]? = some (.inl (ci, fs))) (hk : fs[k]? = some none) : gfI (hp w) a ci k = some (w.2 a k) := by
  simp [gfI, gfV, cAt_w h, mkC, List.getElem?_mapIdx, hk, mkF]
theorem gfR_w {w : Wd} {a ci k r : Nat} {fs : List (Option Nat)} (h : shp[a]? = some (.inl (ci, fs))) (hk : fs[k]? = some (some r)) : gfR (hp w) a ci k = some r := by
  simp [gfR, gfV, cAt_w h, mkC, List.getElem?_mapIdx, hk, mkF]
theorem hp_set {w w' : Wd} {a : Nat} {sh : Shp} (h : shp[a]? = some sh) (h1 : ∀ i, i ≠ a → w'.1 i = w.1 i ∧ w'.2 i = w.2 i) : (hp w).set a (mkC sh (w'.1 a) (w'.2 a)) = hp w' := by
  apply List.ext_getElem?
  intro j
  rw [List.getElem?_set]
  by_cases hj : a = j
  · subst hj
    rw [if_pos rfl, if_pos (by rw [hp_len]; exact shp_lt h), hp_get h]
  · rw [if_neg hj]
    simp only [hp, List.getElem?_mapIdx]
    have h2 := h1 j (fun e => hj e.symm)
    rw [h2.1, h2.2]
theorem mapIdx_set1 {fs : List (Option Nat)} {f : Nat → Int32} {k : Nat} {x : Int32} (hk : fs[k]? = some none) : (fs.mapIdx (mkF f)).set k (.int x) = fs.mapIdx (mkF (fun j => if j = k then x else f j)) := by
  apply List.ext_getElem?
  intro j
  rw [List.getElem?_set]
  by_cases hj : k = j
  · subst hj
    have hl := (List.getElem?_eq_some_iff.mp hk).1
    rw [if_pos rfl, if_pos (by simpa using hl), List.getElem?_mapIdx, hk]
    simp [mkF]
  · have hj2 : ¬ j = k := fun e => hj e.symm
    rw [if_neg hj]
    simp only [List.getElem?_mapIdx]
    cases fs[j]? with
    | none => rfl
    | some o => cases o <;> simp [mkF, hj2]
theorem pfV_w {w : Wd} {a ci k : Nat} {fs : List (Option Nat)} {x : Int32} (h : shp[a]? = some (.inl (ci, fs))) (hk : fs[k]? = some none) : pfV (hp w) a ci k (.int x) = some (hp (wF w a k x)) := by
  have hl := (List.getElem?_eq_some_iff.mp hk).1
  have e : (hp w).set a (.inl (ci, (fs.mapIdx (mkF (w.2 a))).set k (.int x))) = hp (wF w a k x) := by
    rw [← hp_set (w := w) (w' := wF w a k x) h (fun i hi => ⟨rfl, by funext j; simp [wF, hi]⟩), mapIdx_set1 hk]
    simp [mkC, wF]
  simp [pfV, hp_get h, mkC, hl, e]
theorem ald_w {w : Wd} {a t j : Nat} {i : Int32} (h : shp[a]? = some (.inr (.inl t))) (he : i = nI j) (hj : j < (w.1 a).length) (hb : j < 2 ^ 31) : ald t (hp w) a i = some ((w.1 a).getD j 0) := by
  subst he
  simp [ald, cAt_w h, mkC, nI_pos hb, nI_clamp hb, hj]
theorem ast_w {w : Wd} {a t j : Nat} {i x : Int32} (h : shp[a]? = some (.inr (.inl t))) (he : i = nI j) (hj : j < (w.1 a).length) (hb : j < 2 ^ 31) : ast t (hp w) a i x = some (hp (wA w a ((w.1 a).set j (nar t x)))) := by
  subst he
  have e : (hp w).set a (.inr (.inl (t, (w.1 a).set j (nar t x)))) = hp (wA w a ((w.1 a).set j (nar t x))) := by
    rw [← hp_set (w := w) (w' := wA w a ((w.1 a).set j (nar t x))) h (fun i hi => ⟨by simp [wA, hi], rfl⟩)]
    simp [mkC, wA]
  simp [ast, hp_get h, mkC, nI_pos hb, nI_clamp hb, hj, e]
theorem chk_w {w : Wd} {a ci : Nat} {fs : List (Option Nat)} (h : shp[a]? = some (.inl (ci, fs))) : chk (hp w) a ci = some () := by
  simp [chk, hp_get h, mkC]
theorem alen_w {w : Wd} {a t : Nat} (h : shp[a]? = some (.inr (.inl t))) (ht : t < 3) : alen (hp w) a = some (nI (w.1 a).length) := by
  simp [alen, cAt_w h, mkC, ht, nI]
theorem aldR_w {w : Wd} {a j r : Nat} {i : Int32} {rs : List Nat} (h : shp[a]? = some (.inr (.inr rs))) (he : i = nI j) (hj : rs[j]? = some r) (hb : j < 2 ^ 31) : aldR (hp w) a i = some r := by
  subst he
  simp [aldR, hp_get h, mkC, nI_pos hb, nI_clamp hb, hj]
theorem acp_w {w : Wd} {a b i j n : Nat} {sp dp m : Int32} (ha : shp[a]? = some (.inr (.inl 0))) (hb : shp[b]? = some (.inr (.inl 0))) (e1 : sp = nI i) (e2 : dp = nI j) (e3 : m = nI n) (b1 : i < 2 ^ 31) (b2 : j < 2 ^ 31) (b3 : n < 2 ^ 31) (h1 : i + n ≤ (w.1 a).length) (h2 : j + n ≤ (w.1 b).length) : acp (hp w) a sp b dp m = some (hp (wA w b (cpyL (w.1 a) (w.1 b) i j n))) := by
  subst e1; subst e2; subst e3
  have e : (hp w).set b (.inr (.inl (0, cpyL (w.1 a) (w.1 b) i j n))) = hp (wA w b (cpyL (w.1 a) (w.1 b) i j n)) := by
    rw [← hp_set (w := w) (w' := wA w b (cpyL (w.1 a) (w.1 b) i j n)) hb (fun i hi => ⟨by simp [wA, hi], rfl⟩)]
    simp [mkC, wA]
  simp [acp, hp_get ha, hp_get hb, mkC, nI_pos b1, nI_pos b2, nI_pos b3, nI_clamp b1, nI_clamp b2, nI_clamp b3, h1, h2, e]
theorem wA_s {w : Wd} {a : Nat} {xs : List Int32} : (wA w a xs).1 a = xs := by simp [wA]
theorem wA_n {w : Wd} {a i : Nat} {xs : List Int32} (h : i ≠ a) : (wA w a xs).1 i = w.1 i := by simp [wA, h]
theorem wA_F {w : Wd} {a : Nat} {xs : List Int32} : (wA w a xs).2 = w.2 := rfl
theorem wF_A {w : Wd} {a k : Nat} {x : Int32} : (wF w a k x).1 = w.1 := rfl
theorem wF_s {w : Wd} {a k : Nat} {x : Int32} : (wF w a k x).2 a k = x := by simp [wF]
theorem wF_n {w : Wd} {a k i j : Nat} {x : Int32} (h : ¬ (i = a ∧ j = k)) : (wF w a k x).2 i j = w.2 i j := by simp only [wF, if_neg h]
theorem bnd2_some {α β : Type} {x : α} {h : AHeap} {f : α → AHeap → Option β} : bnd2 (some (x, h)) f = f x h := rfl
theorem iter_seq {σ ρ : Type} {body : σ → Option (σ ⊕ ρ)} (f : Nat → σ) (n : Nat) {q : ρ} (hs : ∀ j, j < n → body (f j) = some (.inl (f (j + 1)))) (he : body (f n) = some (.inr q)) : ∀ (N : Nat), n < N → iter body N (f 0) = some q := by
  have key : ∀ (k j N : Nat), j + k = n → k < N → iter body N (f j) = some q := by
    intro k
    induction k with
    | zero =>
      intro j N hj hN
      match N, hN with
      | N + 1, _ =>
        have : j = n := by omega
        subst this
        simp [iter, he]
    | succ k ih =>
      intro j N hj hN
      match N, hN with
      | N + 1, hN =>
        rw [iter, hs j (by omega)]
        exact ih (j + 1) N (by omega) (by omega)
  intro N hN
  exact key n 0 N (by omega) hN
theorem iter_L {σ ρ : Type} {body : σ → Option (σ ⊕ ρ)} (f : Nat → σ) (n : Nat) {q : ρ} (hn : n < 1000000) (hs : ∀ j, j < n → body (f j) = some (.inl (f (j + 1)))) (he : body (f n) = some (.inr q)) : iter body Lmax (f 0) = some q := iter_seq f n hs he Lmax hn
/-- a loop that may leave early -/
theorem iter_E {σ ρ : Type} {body : σ → Option (σ ⊕ ρ)} (f : Nat → σ) (n : Nat) (P : Nat → Bool) {q : ρ} (e : Nat → ρ) (hn : n < 1000000) (hs : ∀ j, j < n → P j = false → body (f j) = some (.inl (f (j + 1)))) (hx : ∀ j, j < n → P j = true → body (f j) = some (.inr (e j))) (he : body (f n) = some (.inr q)) : iter body Lmax (f 0) = some (match (List.range n).find? P with
    | some j => e j
    | none => q) := by
  cases hf : (List.range n).find? P with
  | none =>
    have h1 : ∀ j, j < n → P j = false := fun j hj => by
      have := List.find?_eq_none.mp hf j (List.mem_range.mpr hj)
      simpa using this
    exact iter_L f n hn (fun j hj => hs j hj (h1 j hj)) he
  | some j =>
    obtain ⟨h1, as, bs, h2, h3⟩ := List.find?_eq_some_iff_append.mp hf
    have hlen : as.length = j ∧ j < n := by
      have hl : (List.range n)[as.length]? = some j := by rw [h2]; simp
      have hl2 : as.length < n := by
        have := (List.getElem?_eq_some_iff.mp hl).1
        simpa using this
      rw [List.getElem?_range hl2] at hl
      have := Option.some.inj hl
      exact ⟨this, by omega⟩
    have h4 : ∀ i, i < j → P i = false := fun i hi => by
      have hm : i ∈ as := by
        have hl : (List.range n)[i]? = some i := List.getElem?_range (by omega)
        rw [h2, List.getElem?_append_left (by omega)] at hl
        exact List.mem_of_getElem? hl
      have := h3 i hm
      simpa using this
    exact iter_L f j (by omega) (fun i hi => hs i (by omega) (h4 i hi)) (hx j hlen.2 h1)
