/-! the reference: sets of sites, sets of plants -/
theorem nI_and (a b : Nat) : nI a &&& nI b = nI (a &&& b) := by
  apply Int32.toBitVec_inj.mp
  rw [Int32.toBitVec_and]
  exact BitVec.ofNat_and.symm
theorem nI_or (a b : Nat) : nI a ||| nI b = nI (a ||| b) := by
  apply Int32.toBitVec_inj.mp
  rw [Int32.toBitVec_or]
  exact BitVec.ofNat_or.symm
theorem bit64 : ∀ S : Fin 64, ∀ s : Fin 6, (nI S.1 >>> (nI s.1 &&& 31)) &&& 1 = b2i (S.1.testBit s.1) := by decide +kernel
theorem bit_at {S s : Nat} (hS : S < 64) (hs : s < 6) : (nI S >>> (nI s &&& 31)) &&& 1 = b2i (S.testBit s) := bit64 ⟨S, hS⟩ ⟨s, hs⟩
theorem b2i_n1 {b : Bool} : (¬ b2i b = 1) ↔ b = false := by cases b <;> decide
def bits6 (P : Nat → Bool) : Nat := (if P 0 = true then 1 else 0) + (if P 1 = true then 2 else 0) + (if P 2 = true then 4 else 0) + (if P 3 = true then 8 else 0) + (if P 4 = true then 16 else 0) + (if P 5 = true then 32 else 0)
theorem bits6_all : ∀ a b c d e f : Bool, ∀ s : Fin 6, ((if a = true then 1 else 0) + (if b = true then 2 else 0) + (if c = true then 4 else 0) + (if d = true then 8 else 0) + (if e = true then 16 else 0) + (if f = true then 32 else 0) : Nat).testBit s.1 = (match s.1 with | 0 => a | 1 => b | 2 => c | 3 => d | 4 => e | _ => f) := by decide +kernel
theorem bits6_bit {P : Nat → Bool} {s : Nat} (hs : s < 6) : (bits6 P).testBit s = P s := by
  have h := bits6_all (P 0) (P 1) (P 2) (P 3) (P 4) (P 5) ⟨s, hs⟩
  unfold bits6
  rw [h]
  have : s = 0 ∨ s = 1 ∨ s = 2 ∨ s = 3 ∨ s = 4 ∨ s = 5 := by omega
  rcases this with rfl | rfl | rfl | rfl | rfl | rfl <;> rfl
theorem bits6_lt (P : Nat → Bool) : bits6 P < 64 := by
  unfold bits6
  split <;> split <;> split <;> split <;> split <;> split <;> omega
/-- plants that have a road to one of the sites -/
def rsN (g : PD) (S : Nat) : Nat → Nat
  | 0 => 0
  | n + 1 => rsN g S n ||| (if S.testBit n = true then mN g n else 0)
theorem rsN_lt (g : PD) (S : Nat) : ∀ n, rsN g S n < 16 := by
  intro n
  induction n with
  | zero => exact Nat.zero_lt_succ _
  | succ n ih =>
    refine Nat.or_lt_two_pow (n := 4) ih ?_
    split
    · exact mN_lt g n
    · decide
theorem rsN_bit {g : PD} {S p : Nat} (hp' : p < 4) : ∀ n, (rsN g S n).testBit p = true ↔ ∃ s, s < n ∧ S.testBit s = true ∧ zT g p s ≠ -1 := by
  intro n
  induction n with
  | zero => simp [rsN]
  | succ n ih =>
    rw [rsN, Nat.testBit_or, Bool.or_eq_true, ih]
    constructor
    · rintro (⟨s, h1, h2⟩ | h)
      · exact ⟨s, by omega, h2⟩
      · by_cases hb : S.testBit n = true
        · rw [if_pos hb, mN_bit hp'] at h
          exact ⟨n, by omega, hb, by simpa using h⟩
        · rw [if_neg hb] at h
          simp at h
    · rintro ⟨s, h1, h2, h3⟩
      by_cases hsn : s = n
      · subst hsn
        right
        rw [if_pos h2, mN_bit hp']
        simpa using h3
      · exact Or.inl ⟨s, by omega, h2, h3⟩
theorem orN_0 {f : Nat → Int32} {n : Nat} : ∀ k, (∀ i, n ≤ i → i < n + k → f i = 0) → orN f (n + k) = orN f n := by
  intro k
  induction k with
  | zero => intro _; rfl
  | succ k ih =>
    intro h
    show orN f (n + k) ||| f (n + k) = _
    rw [ih (fun i h1 h2 => h i h1 (by omega)), h (n + k) (by omega) (by omega), Int32.or_zero]
section Md3
variable {w : Wd}
theorem Mod_roadsTo_w (hw : WL w) (hg : wfP (mdG (w.1 279))) {s : Nat} (hs : s < 6) : Mod_roadsTo 274 (nI s) (hp w) = some (nI (mN (mdG (w.1 279)) s), hp w) := by
  have hnp := hg.1.1.2
  have hit : iter (Mod_roadsTo_b4 274 (nI s)) Lmax (0, 0, hp w) = some (orN (fun p => if pToll (mdG (w.1 279)) p s = -1 then 0 else (1 : Int32) <<< (nI p &&& 31)) 4, nI 4, hp w) := by
    refine iter_L (fun j => (orN (fun p => if pToll (mdG (w.1 279)) p s = -1 then 0 else (1 : Int32) <<< (nI p &&& 31)) j, nI j, hp w)) 4 (by omega) ?_ ?_
    · intro j hj
      have hcn : ¬ (4 : Int32) ≤ nI j := nI_ge (b := 4) hj (by omega)
      simp only [Mod_roadsTo_b4, if_neg hcn, k274, Option.bind_some, Mod_toll_w hw hj hs, bnd2_some, Mod_roadsTo_j27, nI_1, orN]
      by_cases hT : pToll (mdG (w.1 279)) j s = -1
      · rw [if_neg (fun h => h hT), if_pos hT]
      · rw [if_pos hT, if_neg hT]
    · simp only [Mod_roadsTo_b4, if_pos (show (4 : Int32) ≤ nI 4 by decide)]
  have e := orN_0 (f := fun p => if pToll (mdG (w.1 279)) p s = -1 then 0 else (1 : Int32) <<< (nI p &&& 31)) (n := pNp (mdG (w.1 279))) (4 - pNp (mdG (w.1 279))) (fun p h1 h2 => by
    show (if pToll (mdG (w.1 279)) p s = -1 then 0 else _) = (0 : Int32)
    rw [if_pos (toll_m1.mpr (zT_out hg (by omega) hs (Or.inl h1)))])
  rw [show pNp (mdG (w.1 279)) + (4 - pNp (mdG (w.1 279))) = 4 by omega] at e
  simp only [Mod_roadsTo, hit, Option.bind_some, Mod_roadsTo_j35]
  rw [e, ← mask_nI hg hs]
  rfl
theorem Mod_roadsToSet_w (hw : WL w) (hg : wfP (mdG (w.1 279))) {S : Nat} (hS : S < 64) : Mod_roadsToSet 274 (nI S) (hp w) = some (nI (rsN (mdG (w.1 279)) S 6), hp w) := by
  have hit : iter (Mod_roadsToSet_b4 274 (nI S)) Lmax (0, 0, hp w) = some (nI (rsN (mdG (w.1 279)) S 6), nI 6, hp w) := by
    refine iter_L (fun j => (nI (rsN (mdG (w.1 279)) S j), nI j, hp w)) 6 (by omega) ?_ ?_
    · intro j hj
      have hcn : ¬ (6 : Int32) ≤ nI j := nI_ge (b := 6) hj (by omega)
      simp only [Mod_roadsToSet_b4, if_neg hcn, bit_at hS hj, k274, Option.bind_some, Mod_roadsTo_w hw hg hj, bnd2_some, Mod_roadsToSet_j29, nI_1, rsN]
      by_cases hb : S.testBit j = true
      · rw [if_neg (by rw [hb]; decide), if_pos hb, nI_or]
      · have hb' : S.testBit j = false := by simpa using hb
        rw [if_pos (by rw [hb']; decide), if_neg hb, show nI (rsN (mdG (w.1 279)) S j) ||| 0 = nI (rsN (mdG (w.1 279)) S j ||| 0) from nI_or _ 0]
    · simp only [Mod_roadsToSet_b4, if_pos (show (6 : Int32) ≤ nI 6 by decide)]
  simp only [Mod_roadsToSet, hit, Option.bind_some, Mod_roadsToSet_j37]
theorem Mod_stocksOf_w (hw : WL w) (hg : wfP (mdG (w.1 279))) {plan : Int32} {Q : Nat} (hQ : Q < 16) : Mod_stocksOf 274 plan (nI Q) (hp w) = some (poolP (mdG (w.1 279)) plan Q, hp w) := by
  have hit : iter (Mod_stocksOf_b5 274 plan (nI Q)) Lmax (0, 0, hp w) = some (poolP (mdG (w.1 279)) plan Q, nI 4, hp w) := by
    refine iter_L (fun j => (sumN (fun p => if Q.testBit p = true then stockP (mdG (w.1 279)) plan p else 0) j, nI j, hp w)) 4 (by omega) ?_ ?_
    · intro j hj
      have hcn : ¬ (4 : Int32) ≤ nI j := nI_ge (b := 4) hj (by omega)
      simp only [Mod_stocksOf_b5, if_neg hcn, bit_at (show Q < 64 by omega) (show j < 6 by omega), k274, Option.bind_some, Mod_stockOf_w hw hg hj, bnd2_some, Mod_stocksOf_j33, nI_1, sumN]
      by_cases hb : Q.testBit j = true
      · rw [if_neg (by rw [hb]; decide), if_pos hb]
      · have hb' : Q.testBit j = false := by simpa using hb
        rw [if_pos (by rw [hb']; decide), if_neg hb]
    · simp only [Mod_stocksOf_b5, if_pos (show (4 : Int32) ≤ nI 4 by decide)]
      rfl
  simp only [Mod_stocksOf, hit, Option.bind_some, Mod_stocksOf_j41]
theorem Mod_needsOf_w (hw : WL w) {c S : Nat} (hc : c < 4) (hS : S < 64) : Mod_needsOf 274 (nI c) (nI S) (hp w) = some (sumN (fun s => if S.testBit s = true then pNeed (mdG (w.1 279)) c s else 0) 6, hp w) := by
  have hit : iter (Mod_needsOf_b5 274 (nI c) (nI S)) Lmax (0, 0, hp w) = some (sumN (fun s => if S.testBit s = true then pNeed (mdG (w.1 279)) c s else 0) 6, nI 6, hp w) := by
    refine iter_L (fun j => (sumN (fun s => if S.testBit s = true then pNeed (mdG (w.1 279)) c s else 0) j, nI j, hp w)) 6 (by omega) ?_ ?_
    · intro j hj
      have hcn : ¬ (6 : Int32) ≤ nI j := nI_ge (b := 6) hj (by omega)
      simp only [Mod_needsOf_b5, if_neg hcn, bit_at hS hj, k274, Option.bind_some, Mod_needOf_w hw hc hj, bnd2_some, Mod_needsOf_j34, nI_1, sumN]
      by_cases hb : S.testBit j = true
      · rw [if_neg (by rw [hb]; decide), if_pos hb]
      · have hb' : S.testBit j = false := by simpa using hb
        rw [if_pos (by rw [hb']; decide), if_neg hb]
    · simp only [Mod_needsOf_b5, if_pos (show (6 : Int32) ≤ nI 6 by decide)]
  simp only [Mod_needsOf, hit, Option.bind_some, Mod_needsOf_j42]
end Md3
def ndZ (g : PD) (c S : Nat) : Int := rowZ (fun _ s => if S.testBit s = true then zN g c s else 0) 0
def plZ (g : PD) (plan : Int32) (Q : Nat) : Int := colZ (fun p _ => if Q.testBit p = true then zK g plan p else 0) 0
def ldZ (g : PD) (c Q : Nat) : Int := rowZ (fun _ s => if inX g (fun p => Q.testBit p) s = true then zN g c s else 0) 0
def FZ (g : PD) (c : Nat) (plan : Int32) (S : Nat) : Int := ndZ g c S - plZ g plan (rsN g S 6)
theorem nd_ti {g : PD} (hg : wfP g) {c S : Nat} (hc : c < 4) : (sumN (fun s => if S.testBit s = true then pNeed g c s else 0) 6).toInt = ndZ g c S ∧ 0 ≤ ndZ g c S ∧ ndZ g c S ≤ 120 := by
  have s1 := sumN_ti (f := fun s => if S.testBit s = true then pNeed g c s else 0) (B := 20) 6 (fun s hs => by
    show 0 ≤ (if S.testBit s = true then pNeed g c s else 0 : Int32).toInt ∧ (if S.testBit s = true then pNeed g c s else 0 : Int32).toInt ≤ 20
    split
    · exact zN_rng hg hc hs
    · rw [ti_0]; omega) (by omega) (by omega)
  have e : sumZ (fun s => (if S.testBit s = true then pNeed g c s else 0 : Int32).toInt) 6 = ndZ g c S := by
    rw [sumZ_congr (h := fun s => if S.testBit s = true then zN g c s else 0) 6 (fun s hs => by
      show (if S.testBit s = true then pNeed g c s else 0 : Int32).toInt = if S.testBit s = true then zN g c s else 0
      split
      · rfl
      · rfl)]
    exact sumZ_row (by omega) (fun s hs h => absurd hs (by omega))
  rw [← e, ← s1.1]
  exact ⟨rfl, s1.2.1, s1.2.2⟩
/-- the lack so far, and the sites in all sets that have it -/
def isLk (g : PD) (c : Nat) (plan : Int32) (n : Nat) (x : Int) (L : Nat) : Prop := (∀ S, S < n → FZ g c plan S ≤ x) ∧ (∃ S, S < n ∧ FZ g c plan S = x) ∧ (∀ s, s < 6 → (L.testBit s = true ↔ ∀ S, S < n → FZ g c plan S = x → S.testBit s = true)) ∧ L < 64
theorem isLk_step {g : PD} {c : Nat} {plan : Int32} {n : Nat} {x : Int} {L : Nat} (hn : n < 64) (h : isLk g c plan n x L) : (x < FZ g c plan n → isLk g c plan (n + 1) (FZ g c plan n) n) ∧ (FZ g c plan n = x → isLk g c plan (n + 1) x (L &&& n)) ∧ (FZ g c plan n < x → isLk g c plan (n + 1) x L) := by
  obtain ⟨h1, ⟨S0, h2, h2'⟩, h3, h4⟩ := h
  refine ⟨fun hx => ?_, fun hx => ?_, fun hx => ?_⟩
  · refine ⟨fun S hS => ?_, ⟨n, by omega, rfl⟩, fun s hs => ?_, hn⟩
    · by_cases hSn : S = n
      · subst hSn; exact Int.le_refl _
      · have := h1 S (by omega); omega
    · constructor
      · intro hb S hS hF
        by_cases hSn : S = n
        · subst hSn; exact hb
        · have := h1 S (by omega); omega
      · intro hb
        exact hb n (by omega) rfl
  · refine ⟨fun S hS => ?_, ⟨S0, by omega, h2'⟩, fun s hs => ?_, Nat.lt_of_le_of_lt Nat.and_le_left h4⟩
    · by_cases hSn : S = n
      · subst hSn; omega
      · exact h1 S (by omega)
    · rw [Nat.testBit_and, Bool.and_eq_true, h3 s hs]
      constructor
      · rintro ⟨hb1, hb2⟩ S hS hF
        by_cases hSn : S = n
        · subst hSn; exact hb2
        · exact hb1 S (by omega) hF
      · intro hb
        exact ⟨fun S hS hF => hb S (by omega) hF, hb n (by omega) hx⟩
  · refine ⟨fun S hS => ?_, ⟨S0, by omega, h2'⟩, fun s hs => ?_, h4⟩
    · by_cases hSn : S = n
      · subst hSn; omega
      · exact h1 S (by omega)
    · rw [h3 s hs]
      constructor
      · intro hb S hS hF
        by_cases hSn : S = n
        · subst hSn; omega
        · exact hb S (by omega) hF
      · intro hb S hS hF
        exact hb S (by omega) hF
theorem shl6 : ∀ n : Fin 7, (1 : Int32) <<< (nI n.1 &&& 31) = nI (2 ^ n.1) := by decide +kernel
theorem rs0 (g : PD) : ∀ n, rsN g 0 n = 0 := by
  intro n
  induction n with
  | zero => rfl
  | succ n ih => rw [rsN, ih, if_neg (by simp)]; rfl
theorem FZ_0 (g : PD) (c : Nat) (plan : Int32) : FZ g c plan 0 = 0 := by
  unfold FZ
  rw [rs0]
  simp [ndZ, plZ, rowZ, colZ]
theorem Mod_lackOf_w {w : Wd} (hw : WL w) (hg : wfP (mdG (w.1 279))) {c : Nat} {plan : Int32} (hc : c < 4) : ∃ w' x L, Mod_lackOf 274 (nI c) plan (hp w) = some (x, hp w') ∧ isLk (mdG (w.1 279)) c plan (2 ^ pNs (mdG (w.1 279))) x.toInt L ∧ w'.1 = w.1 ∧ Fr w w' 274 275 ∧ w'.2 274 21 = x ∧ w'.2 274 22 = nI L ∧ (∀ k, k ≠ 21 → k ≠ 22 → w'.2 274 k = w.2 274 k) := by
  have hns := hg.1.2.1
  have h2n : 2 ^ pNs (mdG (w.1 279)) ≤ 64 := by
    have := Nat.pow_le_pow_right (show 0 < 2 by omega) hns.2
    omega
  have h2p : 1 ≤ 2 ^ pNs (mdG (w.1 279)) := Nat.one_le_two_pow
  obtain ⟨q, i1, W, x, L, rfl, hL, hA, hF, h21, h22, hk⟩ := iter_I (body := Mod_lackOf_b12 274 (nI c) plan) (fun j st => ∃ W x L, st = (nI (j + 1), hp W) ∧ isLk (mdG (w.1 279)) c plan (j + 1) x.toInt L ∧ W.1 = w.1 ∧ Fr w W 274 275 ∧ W.2 274 21 = x ∧ W.2 274 22 = nI L ∧ (∀ k, k ≠ 21 → k ≠ 22 → W.2 274 k = w.2 274 k)) (fun q => ∃ W x L, q = (nI (2 ^ pNs (mdG (w.1 279))), hp W) ∧ isLk (mdG (w.1 279)) c plan (2 ^ pNs (mdG (w.1 279))) x.toInt L ∧ W.1 = w.1 ∧ Fr w W 274 275 ∧ W.2 274 21 = x ∧ W.2 274 22 = nI L ∧ (∀ k, k ≠ 21 → k ≠ 22 → W.2 274 k = w.2 274 k)) (2 ^ pNs (mdG (w.1 279)) - 1) (s0 := (1, hp (wF (wF w 274 21 0) 274 22 0))) (by omega) ⟨_, 0, 0, rfl, ⟨fun S hS => by
      have : S = 0 := by omega
      subst this; rw [FZ_0, ti_0]; omega, ⟨0, by omega, by rw [FZ_0]; rfl⟩, fun s hs => ⟨fun h => by simp at h, fun h => h 0 (by omega) (by rw [FZ_0]; rfl)⟩, by omega⟩, rfl, Fr.cF (Fr.F (by omega) (by omega)) (by omega) (by omega), by rw [wF_n (by omega), wF_s], wF_s, fun k h1 h2 => by rw [wF_n (by omega), wF_n (by omega)]⟩ (by
    rintro j st hj ⟨W, x, L, rfl, hL, hA, hF, h21, h22, hk⟩
    left
    have hW : WL W := fun i => by rw [hA]; exact hw i
    have hcn : ¬ nI (2 ^ pNs (mdG (w.1 279))) ≤ nI (j + 1) := nI_ge (by omega) (by omega)
    have e1 : ald 0 (hp W) 279 1 = some (nI (pNs (mdG (w.1 279)))) := by rw [ldN hW (i := 1) (j := 1) rfl (by omega), hA]; exact congrArg some hns.1
    have e2 : (1 : Int32) <<< (nI (pNs (mdG (w.1 279))) &&& 31) = nI (2 ^ pNs (mdG (w.1 279))) := shl6 ⟨pNs (mdG (w.1 279)), by omega⟩
    have n1 := Mod_needsOf_w (S := j + 1) hW hc (by omega)
    have n2 := Mod_roadsToSet_w (S := j + 1) hW (by rw [hA]; exact hg) (by omega)
    have n3 := Mod_stocksOf_w (plan := plan) (Q := rsN (mdG (W.1 279)) (j + 1) 6) hW (by rw [hA]; exact hg) (rsN_lt _ _ _)
    rw [hA] at n1 n2 n3
    have t1 := nd_ti hg (c := c) (S := j + 1) hc
    have t2 := pool_Z hg (plan := plan) (set := rsN (mdG (w.1 279)) (j + 1) 6)
    have eF : (sumN (fun s => if (j + 1).testBit s = true then pNeed (mdG (w.1 279)) c s else 0) 6 - poolP (mdG (w.1 279)) plan (rsN (mdG (w.1 279)) (j + 1) 6)).toInt = FZ (mdG (w.1 279)) c plan (j + 1) := by
      rw [ti_sub (by omega) (by omega), t1.1, t2.1]
      rfl
    simp only [Mod_lackOf_b12, c274_5, e1, e2, Option.bind_some, if_neg hcn, k274, n1, n2, n3, bnd2_some, c274_21, c274_22, h21, h22, p274_21, p274_22, Mod_lackOf_j85, nI_1]
    generalize sumN (fun s => if (j + 1).testBit s = true then pNeed (mdG (w.1 279)) c s else 0) 6 - poolP (mdG (w.1 279)) plan (rsN (mdG (w.1 279)) (j + 1) 6) = y at eF ⊢
    have st := isLk_step (show j + 1 < 64 by omega) hL
    rw [← eF] at st
    by_cases hx : y ≤ x
    · rw [if_pos hx]
      by_cases hy : y = x
      · rw [if_neg (fun h => h hy)]
        refine ⟨_, rfl, _, x, L &&& (j + 1), rfl, st.2.1 (by rw [hy]), hA, Fr.cF hF (by omega) (by omega), by rw [wF_n (by omega)]; exact h21, by rw [wF_s, nI_and], fun k h1 h2 => by rw [wF_n (by omega)]; exact hk k h1 h2⟩
      · rw [if_pos hy]
        refine ⟨_, rfl, W, x, L, rfl, st.2.2 ?_, hA, hF, h21, h22, hk⟩
        rw [ti_le] at hx
        rw [ti_eq] at hy
        omega
    · rw [if_neg hx]
      refine ⟨_, rfl, _, y, j + 1, rfl, st.1 (by rw [ti_le] at hx; omega), hA, Fr.cF (Fr.cF hF (by omega) (by omega)) (by omega) (by omega), by rw [wF_n (by omega), wF_s], wF_s, fun k h1 h2 => by rw [wF_n (by omega), wF_n (by omega)]; exact hk k h1 h2⟩) (by
    rintro st ⟨W, x, L, rfl, hL, hA, hF, h⟩
    have hW : WL W := fun i => by rw [hA]; exact hw i
    have e1 : ald 0 (hp W) 279 1 = some (nI (pNs (mdG (w.1 279)))) := by rw [ldN hW (i := 1) (j := 1) rfl (by omega), hA]; exact congrArg some hns.1
    have e2 : (1 : Int32) <<< (nI (pNs (mdG (w.1 279))) &&& 31) = nI (2 ^ pNs (mdG (w.1 279))) := shl6 ⟨pNs (mdG (w.1 279)), by omega⟩
    rw [show 2 ^ pNs (mdG (w.1 279)) - 1 + 1 = 2 ^ pNs (mdG (w.1 279)) by omega] at hL ⊢
    exact ⟨(nI (2 ^ pNs (mdG (w.1 279))), hp W), by simp only [Mod_lackOf_b12, c274_5, e1, e2, Option.bind_some, if_pos (nI_le (Nat.le_refl _) (show 2 ^ pNs (mdG (w.1 279)) < 2 ^ 31 by omega))], W, x, L, rfl, hL, hA, hF, h⟩)
  refine ⟨W, x, L, ?_, hL, hA, hF, h21, h22, hk⟩
  simp only [Mod_lackOf, p274_21, p274_22, Option.bind_some, i1, Mod_lackOf_j91, c274_21, h21]
