/-! the reference: plants that are scarce -/
def layd (w : Wd) : Prop := ∀ s, s < 6 → zA w 288 s = vZ (mdG (w.1 279)) (zA w 287) s ∧ (w.1 289).getD s 0 = nI (nrA (mdG (w.1 279)) (zA w 287) s 4)
theorem near_sub {g : PD} {U : Nat → Int} {s Q : Nat} (hQ : Q < 16) : (nI (nrA g U s 4) &&& (nI Q ^^^ (-1)) = 0) ↔ nrIn g U s (fun p => Q.testBit p) = true := by
  have h := sub_bits ⟨nrA g U s 4, nrA_lt g U s⟩ ⟨Q, hQ⟩
  rw [← decide_eq_true_iff (p := nI (nrA g U s 4) &&& (nI Q ^^^ (-1)) = 0)]
  rw [h]
  unfold nrIn
  simp only [nrA_bit, show (0 : Nat) < 4 by omega, show (1 : Nat) < 4 by omega, show (2 : Nat) < 4 by omega, show (3 : Nat) < 4 by omega, decide_true, Bool.true_and]
theorem Mod_askedMore_w {w : Wd} {c Q : Nat} {plan : Int32} (hw : WL w) (hg : wfP (mdG (w.1 279))) (hl : layd w) (hc : c < 4) (hQ : Q < 16) : ∃ x, Mod_askedMore 274 (nI c) plan (nI Q) (hp w) = some (x, hp w) ∧ x.toInt = askZ (mdG (w.1 279)) (zK (mdG (w.1 279)) plan) (zN (mdG (w.1 279)) c) (zA w 287) (fun p => Q.testBit p) := by
  have L9 := l289 hw
  generalize hP : poolP (mdG (w.1 279)) plan Q = P
  have hit : iter (Mod_askedMore_b12 274 (nI c) plan (nI Q)) Lmax (-P, 0, hp w) = some (-P + sumN (fun s => if nrIn (mdG (w.1 279)) (zA w 287) s (fun p => Q.testBit p) = true then pNeed (mdG (w.1 279)) c s else 0) 6, nI 6, hp w) := by
    have e : (-P, (0 : Int32), hp w) = (-P + sumN (fun s => if nrIn (mdG (w.1 279)) (zA w 287) s (fun p => Q.testBit p) = true then pNeed (mdG (w.1 279)) c s else 0) 0, nI 0, hp w) := by
      simp [sumN, nI_0]
    rw [e]
    refine iter_L (fun j => (-P + sumN (fun s => if nrIn (mdG (w.1 279)) (zA w 287) s (fun p => Q.testBit p) = true then pNeed (mdG (w.1 279)) c s else 0) j, nI j, hp w)) 6 (by omega) ?_ ?_
    · intro j hj
      have hcn : ¬ (6 : Int32) ≤ nI j := nI_ge (b := 6) hj (by omega)
      have a9 : ald 0 (hp w) 289 (nI j) = some (nI (nrA (mdG (w.1 279)) (zA w 287) j 4)) := by rw [ald_w (j := j) s289 rfl (by omega) (by omega), (hl j hj).2]
      simp only [Mod_askedMore_b12, if_neg hcn, c274_25, a9, Option.bind_some, k274, Mod_needOf_w hw hc hj, bnd2_some, Mod_askedMore_j46, nI_1, sumN]
      by_cases hn : nrIn (mdG (w.1 279)) (zA w 287) j (fun p => Q.testBit p) = true
      · rw [if_neg (fun h => h ((near_sub hQ).mpr hn)), if_pos hn, Int32.add_assoc]
      · rw [if_pos (fun h => hn ((near_sub hQ).mp h)), if_neg hn, Int32.add_assoc]
    · simp only [Mod_askedMore_b12, if_pos (show (6 : Int32) ≤ nI 6 by decide)]
  refine ⟨-P + sumN (fun s => if nrIn (mdG (w.1 279)) (zA w 287) s (fun p => Q.testBit p) = true then pNeed (mdG (w.1 279)) c s else 0) 6, ?_, ?_⟩
  · simp only [Mod_askedMore, k274, Option.bind_some, Mod_stocksOf_w hw hg hQ, hP, bnd2_some, hit, Mod_askedMore_j55]
  · have s1 := sumN_ti (f := fun s => if nrIn (mdG (w.1 279)) (zA w 287) s (fun p => Q.testBit p) = true then pNeed (mdG (w.1 279)) c s else 0) (B := 20) 6 (fun s hs => by
      show 0 ≤ (if nrIn (mdG (w.1 279)) (zA w 287) s (fun p => Q.testBit p) = true then pNeed (mdG (w.1 279)) c s else 0 : Int32).toInt ∧ (if nrIn (mdG (w.1 279)) (zA w 287) s (fun p => Q.testBit p) = true then pNeed (mdG (w.1 279)) c s else 0 : Int32).toInt ≤ 20
      split
      · exact zN_rng hg hc hs
      · rw [ti_0]; omega) (by omega) (by omega)
    have t2 := pool_Z hg (plan := plan) (set := Q)
    rw [hP] at t2
    have e : ∀ y : Int32, -P + y = y - P := fun y => by grind
    rw [e, ti_sub (by omega) (by omega), s1.1, t2.1]
    unfold askZ
    have er : sumZ (fun s => (if nrIn (mdG (w.1 279)) (zA w 287) s (fun p => Q.testBit p) = true then pNeed (mdG (w.1 279)) c s else 0 : Int32).toInt) 6 = rowZ (fun _ s => if nrIn (mdG (w.1 279)) (zA w 287) s (fun p => Q.testBit p) = true then zN (mdG (w.1 279)) c s else 0) 0 := by
      rw [sumZ_congr (h := fun s => if nrIn (mdG (w.1 279)) (zA w 287) s (fun p => Q.testBit p) = true then zN (mdG (w.1 279)) c s else 0) 6 (fun s hs => by
        show (if nrIn (mdG (w.1 279)) (zA w 287) s (fun p => Q.testBit p) = true then pNeed (mdG (w.1 279)) c s else 0 : Int32).toInt = if nrIn (mdG (w.1 279)) (zA w 287) s (fun p => Q.testBit p) = true then zN (mdG (w.1 279)) c s else 0
        split
        · rfl
        · rfl)]
      exact sumZ_row (by omega) (fun s hs h => absurd hs (by omega))
    rw [er]
/-- the most so far, and what is in all sets that have it -/
def isMx (F : Nat → Int) (n : Nat) (x : Int) (L : Nat) : Prop := (∀ S, S < n → F S ≤ x) ∧ (∃ S, S < n ∧ F S = x) ∧ (∀ s, s < 6 → (L.testBit s = true ↔ ∀ S, S < n → F S = x → S.testBit s = true)) ∧ L < 64
theorem isMx_step {F : Nat → Int} {n : Nat} {x : Int} {L : Nat} (hn : n < 64) (h : isMx F n x L) : (x < F n → isMx F (n + 1) (F n) n) ∧ (F n = x → isMx F (n + 1) x (L &&& n)) ∧ (F n < x → isMx F (n + 1) x L) := by
  obtain ⟨h1, ⟨S0, h2, h2'⟩, h3, h4⟩ := h
  refine ⟨fun hx => ?_, fun hx => ?_, fun hx => ?_⟩
  · refine ⟨fun S hS => ?_, ⟨n, by omega, rfl⟩, fun s hs => ?_, hn⟩
    · by_cases hSn : S = n
      · subst hSn; exact Int.le_refl _
      · have := h1 S (by omega); omega
    · constructor
      · intro hb S hS hF
        by_cases hSn : S = n
        · subst hSn; exact hb
        · have := h1 S (by omega); omega
      · intro hb
        exact hb n (by omega) rfl
  · refine ⟨fun S hS => ?_, ⟨S0, by omega, h2'⟩, fun s hs => ?_, Nat.lt_of_le_of_lt Nat.and_le_left h4⟩
    · by_cases hSn : S = n
      · subst hSn; omega
      · exact h1 S (by omega)
    · rw [Nat.testBit_and, Bool.and_eq_true, h3 s hs]
      constructor
      · rintro ⟨hb1, hb2⟩ S hS hF
        by_cases hSn : S = n
        · subst hSn; exact hb2
        · exact hb1 S (by omega) hF
      · intro hb
        exact ⟨fun S hS hF => hb S (by omega) hF, hb n (by omega) hx⟩
  · refine ⟨fun S hS => ?_, ⟨S0, by omega, h2'⟩, fun s hs => ?_, h4⟩
    · by_cases hSn : S = n
      · subst hSn; omega
      · exact h1 S (by omega)
    · rw [h3 s hs]
      constructor
      · intro hb S hS hF
        by_cases hSn : S = n
        · subst hSn; omega
        · exact hb S (by omega) hF
      · intro hb S hS hF
        exact hb S (by omega) hF
/-- needs have roads -/
def roadOk (g : PD) (N : Nat → Int) : Prop := ∀ s, s < 6 → N s ≠ 0 → ∃ q, q < 4 ∧ zT g q s ≠ -1
theorem ask_0 {g : PD} {K N u : Nat → Int} (hR : roadOk g N) : askZ g K N u (fun p => (0 : Nat).testBit p) = 0 := by
  have h1 : rowZ (fun _ s => if nrIn g u s (fun p => (0 : Nat).testBit p) = true then N s else 0) 0 = 0 := by
    have e : ∀ s, s < 6 → (if nrIn g u s (fun p => (0 : Nat).testBit p) = true then N s else 0) = 0 := fun s hs => by
      by_cases h0 : N s = 0
      · rw [h0, ite_self]
      · obtain ⟨q, hq, hT⟩ := hR s hs h0
        obtain ⟨p, hp', hn⟩ := vZ_at (u := u) hq hT
        rw [if_neg]
        intro h
        have := nrIn_iff.mp h p hp' (nrB_iff.mpr hn)
        simp at this
    simp only [rowZ]
    rw [e 0 (by omega), e 1 (by omega), e 2 (by omega), e 3 (by omega), e 4 (by omega), e 5 (by omega)]
    rfl
  have h2 : colZ (fun p _ => if (fun p => (0 : Nat).testBit p) p = true then K p else 0) 0 = 0 := by simp [colZ]
  unfold askZ
  rw [h1, h2]
  rfl
theorem ask_fn {g : PD} {K N u : Nat → Int} {Y Z : Nat → Bool} (h : ∀ p, p < 4 → Y p = Z p) : askZ g K N u Y = askZ g K N u Z := by
  have e : ∀ s, nrIn g u s Y = nrIn g u s Z := fun s => by
    unfold nrIn
    rw [h 0 (by omega), h 1 (by omega), h 2 (by omega), h 3 (by omega)]
  unfold askZ
  simp only [e, colZ, h 0 (by omega), h 1 (by omega), h 2 (by omega), h 3 (by omega)]
theorem ask_lat {g : PD} {K N u : Nat → Int} (hR : roadOk g N) (hN : ∀ s, s < 6 → 0 ≤ N s) (A B : Nat → Bool) : askZ g K N u A + askZ g K N u B ≤ askZ g K N u (fun p => A p && B p) + askZ g K N u (fun p => A p || B p) := by
  have h := D_lat (g := g) (K := K) (N := N) (a := upX u A 1) (b := upX u B 1) (m := upX u (fun p => A p && B p) 1) (j := upX u (fun p => A p || B p) 1) hN (fun p hp' => by
    have ea : upX u A 1 p = u p + (if A p = true then 1 else 0) := rfl
    have eb : upX u B 1 p = u p + (if B p = true then 1 else 0) := rfl
    have em : upX u (fun p => A p && B p) 1 p = u p + (if (A p && B p) = true then 1 else 0) := rfl
    have ej : upX u (fun p => A p || B p) 1 p = u p + (if (A p || B p) = true then 1 else 0) := rfl
    rw [ea, eb, em, ej]
    cases hA : A p
    · cases hB : B p
      · exact Or.inl ⟨rfl, rfl, Int.le_refl _⟩
      · exact Or.inl ⟨rfl, rfl, by simp; omega⟩
    · cases hB : B p
      · exact Or.inr ⟨rfl, rfl, by simp; omega⟩
      · exact Or.inl ⟨rfl, rfl, Int.le_refl _⟩)
  rw [D_up1 hR, D_up1 hR, D_up1 hR, D_up1 hR] at h
  omega
theorem mx_inter {g : PD} {K N u : Nat → Int} (hR : roadOk g N) (hN : ∀ s, s < 6 → 0 ≤ N s) {m : Nat} (hm : m ≤ 16) {x : Int} (hx : ∀ Y : Nat → Bool, askZ g K N u Y ≤ x) : ∀ n, n ≤ m → (∃ S, S < n ∧ askZ g K N u (fun p => S.testBit p) = x) → ∃ R : Nat → Bool, askZ g K N u R = x ∧ ∀ p, p < 4 → (R p = true ↔ ∀ S, S < n → askZ g K N u (fun p => S.testBit p) = x → S.testBit p = true) := by
  intro n
  induction n with
  | zero => rintro _ ⟨S, hS, _⟩; omega
  | succ n ih =>
    intro hn hex
    by_cases hp' : ∃ S, S < n ∧ askZ g K N u (fun p => S.testBit p) = x
    · obtain ⟨R, r1, r2⟩ := ih (by omega) hp'
      by_cases hnx : askZ g K N u (fun p => n.testBit p) = x
      · refine ⟨fun p => R p && n.testBit p, ?_, fun p hp4 => ?_⟩
        · have h1 := ask_lat (K := K) (u := u) hR hN R (fun p => n.testBit p)
          have h2 := hx (fun p => R p && n.testBit p)
          have h3 := hx (fun p => R p || n.testBit p)
          omega
        · rw [Bool.and_eq_true, r2 p hp4]
          constructor
          · rintro ⟨a, b⟩ S hS hSx
            by_cases hSn : S = n
            · subst hSn; exact b
            · exact a S (by omega) hSx
          · intro h
            exact ⟨fun S hS hSx => h S (by omega) hSx, h n (by omega) hnx⟩
      · refine ⟨R, r1, fun p hp4 => ?_⟩
        rw [r2 p hp4]
        constructor
        · intro h S hS hSx
          by_cases hSn : S = n
          · subst hSn; exact absurd hSx hnx
          · exact h S (by omega) hSx
        · intro h S hS hSx
          exact h S (by omega) hSx
    · have hnx : askZ g K N u (fun p => n.testBit p) = x := by
        obtain ⟨S, h1, h2⟩ := hex
        by_cases hSn : S = n
        · subst hSn; exact h2
        · exact absurd ⟨S, by omega, h2⟩ hp'
      refine ⟨fun p => n.testBit p, hnx, fun p hp4 => ⟨fun hb S hS hSx => ?_, fun h => h n (by omega) hnx⟩⟩
      by_cases hSn : S = n
      · subst hSn; exact hb
      · exact absurd ⟨S, by omega, hSx⟩ hp'
theorem setN_hi {X : Nat → Bool} {n : Nat} (h : ∀ p, n ≤ p → p < 4 → X p = false) : setN X < 2 ^ n := by
  apply Nat.lt_pow_two_of_testBit
  intro i hi
  by_cases h4 : i < 4
  · rw [setN_bit h4]; exact h i hi h4
  · apply Nat.testBit_lt_two_pow
    have h1 := setN_lt X
    have h2 := Nat.pow_le_pow_right (show 0 < 2 by omega) (show 4 ≤ i by omega)
    omega
theorem ask_set {g : PD} (hg : wfP g) {plan : Int32} {N u : Nat → Int} (Y : Nat → Bool) : askZ g (zK g plan) N u Y = askZ g (zK g plan) N u (fun p => (setN (fun p => Y p && decide (p < pNp g))).testBit p) := by
  have e1 : ∀ s, s < 6 → nrIn g u s Y = nrIn g u s (fun p => (setN (fun p => Y p && decide (p < pNp g))).testBit p) := fun s hs => by
    rw [Bool.eq_iff_iff, nrIn_iff, nrIn_iff]
    have hnp : ∀ p, p < 4 → nrB g u s p = true → p < pNp g := fun p hp' hb => by
      apply Nat.lt_of_not_le
      intro h
      exact (nrB_iff.mp hb).1 (zT_out hg hp' hs (Or.inl h))
    constructor
    · intro h p hp' hb
      rw [setN_bit hp', h p hp' hb, decide_eq_true (hnp p hp' hb)]; rfl
    · intro h p hp' hb
      have := h p hp' hb
      rw [setN_bit hp', Bool.and_eq_true] at this
      exact this.1
  have h1 : rowZ (fun _ s => if nrIn g u s Y = true then N s else 0) 0 = rowZ (fun _ s => if nrIn g u s (fun p => (setN (fun p => Y p && decide (p < pNp g))).testBit p) = true then N s else 0) 0 := by
    refine row_congr (fun s hs => ?_)
    show (if nrIn g u s Y = true then N s else 0) = _
    rw [e1 s hs]
  have h2 : colZ (fun p _ => if Y p = true then zK g plan p else 0) 0 = colZ (fun p _ => if (setN (fun p => Y p && decide (p < pNp g))).testBit p = true then zK g plan p else 0) 0 := by
    refine col_congr (fun p hp' => ?_)
    show (if Y p = true then zK g plan p else 0) = (if (setN (fun p => Y p && decide (p < pNp g))).testBit p = true then zK g plan p else 0)
    rw [setN_bit hp']
    by_cases hpn : p < pNp g
    · rw [decide_eq_true hpn, Bool.and_true]
    · have : zK g plan p = 0 := by rw [(zK_eq hg hp').1, size_out hg hp' (by omega), ti_0, Int.mul_zero]
      rw [this, ite_self, ite_self]
  unfold askZ
  rw [h1, h2]
theorem mx_sc {g : PD} (hg : wfP g) {plan : Int32} {N u : Nat → Int} (hR : roadOk g N) (hN : ∀ s, s < 6 → 0 ≤ N s) {x : Int} {L : Nat} (h : isMx (fun S => askZ g (zK g plan) N u (fun p => S.testBit p)) (2 ^ pNp g) x L) : isSc g (zK g plan) N u (fun p => L.testBit p) := by
  have hnp := hg.1.1.2
  obtain ⟨h1, h2, h3, h4⟩ := h
  have hall : ∀ Y : Nat → Bool, askZ g (zK g plan) N u Y ≤ x := fun Y => by
    rw [ask_set hg Y]
    exact h1 _ (setN_hi (fun p hp1 hp2 => by rw [decide_eq_false (by omega), Bool.and_false]))
  have h2n : 2 ^ pNp g ≤ 16 := by
    have := Nat.pow_le_pow_right (show 0 < 2 by omega) hnp
    omega
  obtain ⟨R, r1, r2⟩ := mx_inter (K := zK g plan) (u := u) hR hN h2n hall (2 ^ pNp g) (Nat.le_refl _) h2
  have eL : askZ g (zK g plan) N u (fun p => L.testBit p) = x := by
    rw [← r1]
    refine ask_fn (fun p hp' => ?_)
    rw [Bool.eq_iff_iff, h3 p (by omega), r2 p hp']
  have hx0 : 0 ≤ x := by
    have := hall (fun p => (0 : Nat).testBit p)
    rw [ask_0 hR] at this
    exact this
  by_cases hx : x = 0
  · left
    refine ⟨fun p hp' => ?_, fun Y => by have := hall Y; omega⟩
    cases hb : L.testBit p
    · exact hb
    · have := (h3 p (by omega)).mp hb 0 Nat.one_le_two_pow (by show askZ g (zK g plan) N u (fun p => (0 : Nat).testBit p) = x; rw [ask_0 hR, hx])
      simp at this
  · right
    rw [eL]
    refine ⟨by omega, fun Y => ⟨hall Y, fun hY p hp' hb => ?_⟩⟩
    rw [ask_set hg Y] at hY
    have := (h3 p (by omega)).mp hb _ (setN_hi (fun p hp1 hp2 => by rw [decide_eq_false (by omega), Bool.and_false])) hY
    rw [setN_bit hp', Bool.and_eq_true] at this
    exact this.1
theorem Mod_scarce_w {w : Wd} {c : Nat} {plan : Int32} (hw : WL w) (hg : wfP (mdG (w.1 279))) (hl : layd w) (hc : c < 4) (hR : roadOk (mdG (w.1 279)) (zN (mdG (w.1 279)) c)) : ∃ L, L < 16 ∧ Mod_scarce 274 (nI c) plan (hp w) = some (nI L, hp w) ∧ isSc (mdG (w.1 279)) (zK (mdG (w.1 279)) plan) (zN (mdG (w.1 279)) c) (zA w 287) (fun p => L.testBit p) := by
  have hnp := hg.1.1
  have h2n : 2 ^ pNp (mdG (w.1 279)) ≤ 16 := by
    have := Nat.pow_le_pow_right (show 0 < 2 by omega) hnp.2
    omega
  have h2p : 1 ≤ 2 ^ pNp (mdG (w.1 279)) := Nat.one_le_two_pow
  have e0 : ald 0 (hp w) 279 0 = some (nI (pNp (mdG (w.1 279)))) := by rw [ldN hw (i := 0) (j := 0) rfl (by omega)]; exact congrArg some hnp.1
  have e2 : (1 : Int32) <<< (nI (pNp (mdG (w.1 279))) &&& 31) = nI (2 ^ pNp (mdG (w.1 279))) := shl6 ⟨pNp (mdG (w.1 279)), by omega⟩
  generalize hF : (fun S : Nat => askZ (mdG (w.1 279)) (zK (mdG (w.1 279)) plan) (zN (mdG (w.1 279)) c) (zA w 287) (fun p => S.testBit p)) = F
  obtain ⟨q, i1, x, L, rfl, hL⟩ := iter_I (body := Mod_scarce_b8 274 (nI c) plan) (fun j st => ∃ x L, st = (x, nI L, nI (j + 1), hp w) ∧ isMx F (j + 1) x.toInt L) (fun q => ∃ x L, q = (x, nI L, nI (2 ^ pNp (mdG (w.1 279))), hp w) ∧ isMx F (2 ^ pNp (mdG (w.1 279))) x.toInt L) (2 ^ pNp (mdG (w.1 279)) - 1) (s0 := (0, 0, 1, hp w)) (by omega) ⟨0, 0, rfl, by
      have f0 : F 0 = 0 := by rw [← hF]; exact ask_0 hR
      refine ⟨fun S hS => ?_, ⟨0, by omega, by rw [f0]; rfl⟩, fun s hs => ⟨fun h => by simp at h, fun h => h 0 (by omega) (by rw [f0]; rfl)⟩, by omega⟩
      have : S = 0 := by omega
      subst this
      rw [f0, ti_0]; omega⟩ (by
    rintro j st hj ⟨x, L, rfl, hL⟩
    left
    have hcn : ¬ nI (2 ^ pNp (mdG (w.1 279))) ≤ nI (j + 1) := nI_ge (by omega) (by omega)
    obtain ⟨y, y1, y2⟩ := Mod_askedMore_w (Q := j + 1) (plan := plan) hw hg hl hc (by omega)
    have y3 : y.toInt = F (j + 1) := by rw [y2, ← hF]
    have st := isMx_step (show j + 1 < 64 by omega) hL
    rw [← y3] at st
    simp only [Mod_scarce_b8, c274_5, e0, e2, Option.bind_some, if_neg hcn, k274, y1, bnd2_some, Mod_scarce_j60, nI_1]
    by_cases hx : y ≤ x
    · rw [if_pos hx]
      by_cases hy : y = x
      · rw [if_neg (fun h => h hy), nI_and]
        exact ⟨_, rfl, x, L &&& (j + 1), rfl, st.2.1 (by rw [hy])⟩
      · rw [if_pos hy]
        refine ⟨_, rfl, x, L, rfl, st.2.2 ?_⟩
        rw [ti_le] at hx
        rw [ti_eq] at hy
        omega
    · rw [if_neg hx]
      exact ⟨_, rfl, y, j + 1, rfl, st.1 (by rw [ti_le] at hx; omega)⟩) (by
    rintro st ⟨x, L, rfl, hL⟩
    rw [show 2 ^ pNp (mdG (w.1 279)) - 1 + 1 = 2 ^ pNp (mdG (w.1 279)) by omega] at hL ⊢
    exact ⟨(x, nI L, nI (2 ^ pNp (mdG (w.1 279))), hp w), by simp only [Mod_scarce_b8, c274_5, e0, e2, Option.bind_some, if_pos (nI_le (Nat.le_refl _) (show 2 ^ pNp (mdG (w.1 279)) < 2 ^ 31 by omega))], x, L, rfl, hL⟩)
  refine ⟨L, ?_, by simp only [Mod_scarce, i1, Option.bind_some, Mod_scarce_j66], ?_⟩
  · apply Nat.lt_pow_two_of_testBit (n := 4)
    intro i hi
    cases hb : L.testBit i
    · rfl
    · by_cases h6 : i < 6
      · obtain ⟨S, hS, hSx⟩ := hL.2.1
        have := bit_hi hS ((hL.2.2.1 i h6).mp hb S hS hSx)
        omega
      · have := bit_hi (n := 6) hL.2.2.2 hb
        omega
  · subst hF
    exact mx_sc hg hR (fun s hs => (zN_rng hg hc hs).1) hL
