/-! the program's data, and what the class's Program does -/
abbrev PD : Type := Int32 × Int32 × Int32 × List Int32 × List Int32 × List Int32 × List Int32 × List Int32 × List Int32
def pNp (g : PD) : Nat := g.1.toNatClampNeg
def pNs (g : PD) : Nat := g.2.1.toNatClampNeg
def pNc (g : PD) : Nat := g.2.2.1.toNatClampNeg
def pFee (g : PD) (p : Nat) : Int32 := g.2.2.2.1.getD p 0
def pSize (g : PD) (p : Nat) : Int32 := g.2.2.2.2.1.getD p 0
def pMost (g : PD) (p : Nat) : Int32 := g.2.2.2.2.2.1.getD p 0
def pToll (g : PD) (p s : Nat) : Int32 := g.2.2.2.2.2.2.1.getD (p * 6 + s) 0
def pWt (g : PD) (c : Nat) : Int32 := g.2.2.2.2.2.2.2.1.getD c 0
def pNeed (g : PD) (c s : Nat) : Int32 := g.2.2.2.2.2.2.2.2.getD (c * 6 + s) 0
def rng (lo hi : Int) (x : Int32) : Prop := lo ≤ x.toInt ∧ x.toInt ≤ hi
def wfP (g : PD) : Prop :=
  ((g.1 = nI (pNp g) ∧ pNp g ≤ 4) ∧ (g.2.1 = nI (pNs g) ∧ pNs g ≤ 6) ∧ (g.2.2.1 = nI (pNc g) ∧ pNc g ≤ 4)) ∧
  (g.2.2.2.1.length = 4 ∧ g.2.2.2.2.1.length = 4 ∧ g.2.2.2.2.2.1.length = 4 ∧ g.2.2.2.2.2.2.1.length = 24 ∧ g.2.2.2.2.2.2.2.1.length = 4 ∧ g.2.2.2.2.2.2.2.2.length = 24) ∧
  (∀ p, p < 4 → rng 0 999 (pFee g p) ∧ rng 0 20 (pSize g p) ∧ rng 0 3 (pMost g p)) ∧
  (∀ p, p < pNp g → rng 1 20 (pSize g p)) ∧
  (∀ p, pNp g ≤ p → p < 4 → pFee g p = 0 ∧ pSize g p = 0 ∧ pMost g p = 0) ∧
  (∀ p s, p < 4 → s < 6 → rng (-1) 99 (pToll g p s)) ∧
  (∀ p s, p < 4 → s < 6 → (pNp g ≤ p ∨ pNs g ≤ s) → pToll g p s = -1) ∧
  (∀ c, c < pNc g → rng 1 9 (pWt g c)) ∧
  (∀ c, pNc g ≤ c → c < 4 → pWt g c = 0) ∧
  (∀ c s, c < 4 → s < 6 → rng 0 20 (pNeed g c s)) ∧
  (∀ c s, c < 4 → s < 6 → (pNc g ≤ c ∨ pNs g ≤ s) → pNeed g c s = 0)
def pdW (w : Wd) (a : Nat) : PD := (w.2 a 0, w.2 a 1, w.2 a 2, w.1 (a + 1), w.1 (a + 2), w.1 (a + 3), w.1 (a + 4), w.1 (a + 5), w.1 (a + 6))
def isPg (a : Nat) : Prop := shp[a]? = some (.inl (6, [none, none, none, some (a + 1), some (a + 2), some (a + 3), some (a + 4), some (a + 5), some (a + 6)])) ∧ shp[a + 1]? = some (.inr (.inl 0)) ∧ shp[a + 2]? = some (.inr (.inl 0)) ∧ shp[a + 3]? = some (.inr (.inl 0)) ∧ shp[a + 4]? = some (.inr (.inl 0)) ∧ shp[a + 5]? = some (.inr (.inl 0)) ∧ shp[a + 6]? = some (.inr (.inl 0))
theorem isPg_2 : isPg 2 := ⟨rfl, rfl, rfl, rfl, rfl, rfl, rfl⟩
theorem isPg_42 : isPg 42 := ⟨rfl, rfl, rfl, rfl, rfl, rfl, rfl⟩
section Pg
variable {w : Wd} {a : Nat}
theorem pgI0 (h : isPg a) : gfI (hp w) a 6 0 = some (w.2 a 0) := gfI_w h.1 rfl
theorem pgI1 (h : isPg a) : gfI (hp w) a 6 1 = some (w.2 a 1) := gfI_w h.1 rfl
theorem pgI2 (h : isPg a) : gfI (hp w) a 6 2 = some (w.2 a 2) := gfI_w h.1 rfl
theorem pgR3 (h : isPg a) : gfR (hp w) a 6 3 = some (a + 1) := gfR_w h.1 rfl
theorem pgR4 (h : isPg a) : gfR (hp w) a 6 4 = some (a + 2) := gfR_w h.1 rfl
theorem pgR5 (h : isPg a) : gfR (hp w) a 6 5 = some (a + 3) := gfR_w h.1 rfl
theorem pgR6 (h : isPg a) : gfR (hp w) a 6 6 = some (a + 4) := gfR_w h.1 rfl
theorem pgR7 (h : isPg a) : gfR (hp w) a 6 7 = some (a + 5) := gfR_w h.1 rfl
theorem pgR8 (h : isPg a) : gfR (hp w) a 6 8 = some (a + 6) := gfR_w h.1 rfl
theorem pgP0 (h : isPg a) {x : Int32} : pfV (hp w) a 6 0 (.int x) = some (hp (wF w a 0 x)) := pfV_w h.1 rfl
theorem pgP1 (h : isPg a) {x : Int32} : pfV (hp w) a 6 1 (.int x) = some (hp (wF w a 1 x)) := pfV_w h.1 rfl
theorem pgP2 (h : isPg a) {x : Int32} : pfV (hp w) a 6 2 (.int x) = some (hp (wF w a 2 x)) := pfV_w h.1 rfl
theorem pgC (h : isPg a) : chk (hp w) a 6 = some () := chk_w h.1
end Pg
def sumN (f : Nat → Int32) : Nat → Int32
  | 0 => 0
  | n + 1 => sumN f n + f n
def unitsI (plan : Int32) (p : Nat) : Int32 := (plan >>> ((2 * nI p) &&& 31)) &&& 3
def feesP (g : PD) (plan : Int32) : Int32 := sumN (fun p => unitsI plan p * pFee g p) (pNp g)
theorem b31 {n : Nat} (h : n ≤ 2000) : n < 2 ^ 31 := by omega
theorem Prog_feesOf_w {w : Wd} {a : Nat} {plan : Int32} (hs : isPg a) (hw : wfP (pdW w a)) : Prog_feesOf a plan (hp w) = some (feesP (pdW w a) plan, hp w) := by
  have hnp := hw.1.1
  have hlen : (w.1 (a + 1)).length = 4 := hw.2.1.1
  have e0 : w.2 a 0 = nI (pNp (pdW w a)) := hnp.1
  have hit : iter (Prog_feesOf_b4 a plan) Lmax (0, 0, hp w) = some (feesP (pdW w a) plan, nI (pNp (pdW w a)), hp w) := by
    refine iter_L (fun j => (sumN (fun p => unitsI plan p * pFee (pdW w a) p) j, nI j, hp w)) (pNp (pdW w a)) (by omega) ?_ ?_
    · intro j hj
      have hc : ¬ nI (pNp (pdW w a)) ≤ nI j := nI_ge hj (by omega)
      simp only [Prog_feesOf_b4, pgI0 hs, pgR3 hs, Option.bind_some, e0, if_neg hc, Sp_unitsIn, bnd2_some, ald_w hs.2.1 rfl (show j < (w.1 (a + 1)).length by omega) (by omega), nI_1]
      rfl
    · have hc : nI (pNp (pdW w a)) ≤ nI (pNp (pdW w a)) := nI_le (Nat.le_refl _) (by omega)
      simp only [Prog_feesOf_b4, pgI0 hs, Option.bind_some, e0, if_pos hc]
      rfl
  simp only [Prog_feesOf, hit, Option.bind_some, Prog_feesOf_j33]
