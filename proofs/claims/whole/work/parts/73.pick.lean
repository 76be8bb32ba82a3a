/-! the engine: which cases bring a cut -/
def isAm (key : Nat → Int) (n : Nat) : Option Nat → Prop
  | none => ∀ c, c < n → key c ≤ 0
  | some b => b < n ∧ 0 < key b ∧ ∀ c, c < n → key c ≤ key b ∧ (c < b → key c < key b)
theorem isAm_new {key : Nat → Int} {n : Nat} {r : Option Nat} (h : isAm key n r) (h2 : ∀ b, r = some b → key b < key n) (h3 : 0 < key n) : isAm key (n + 1) (some n) := by
  refine ⟨by omega, h3, fun c hc => ?_⟩
  by_cases hcn : c = n
  · subst hcn; exact ⟨Int.le_refl _, fun h => absurd h (by omega)⟩
  · have : key c < key n := by
      cases r with
      | none => have := h c (by omega); omega
      | some b => have h4 := (h.2.2 c (by omega)).1; have := h2 b rfl; omega
    exact ⟨by omega, fun _ => this⟩
theorem isAm_old {key : Nat → Int} {n : Nat} {r : Option Nat} (h : isAm key n r) (h2 : ∀ b, r = some b → key n ≤ key b) (h3 : r = none → key n ≤ 0) : isAm key (n + 1) r := by
  cases r with
  | none =>
    intro c hc
    by_cases hcn : c = n
    · subst hcn; exact h3 rfl
    · exact h c (by omega)
  | some b =>
    refine ⟨by have := h.1; omega, h.2.1, fun c hc => ?_⟩
    by_cases hcn : c = n
    · subst hcn; exact ⟨h2 b rfl, fun h' => absurd h' (by have := h.1; omega)⟩
    · exact h.2.2 c (by omega)
theorem isAm_uni {key : Nat → Int} {n : Nat} {r r' : Option Nat} (h : isAm key n r) (h' : isAm key n r') : r = r' := by
  cases r with
  | none =>
    cases r' with
    | none => rfl
    | some b => have := h b h'.1; have := h'.2.1; omega
  | some a =>
    cases r' with
    | none => have := h' a h.1; have := h.2.1; omega
    | some b =>
      have h1 := h.2.2 b h'.1
      have h2 := h'.2.2 a h.1
      have : a = b := by
        rcases Nat.lt_trichotomy a b with hl | hl | hl
        · have := h2.2 hl; omega
        · exact hl
        · have := h1.2 hl; omega
      rw [this]
def encO (r : Option Nat) : Int32 := match r with
  | none => -1
  | some b => nI b
def cntB (P : Nat → Bool) : Nat → Nat
  | 0 => 0
  | n + 1 => cntB P n + if P n = true then 1 else 0
theorem cntB_le {P : Nat → Bool} : ∀ n, cntB P n ≤ n := by
  intro n
  induction n with
  | zero => exact Nat.le_refl _
  | succ n ih => unfold cntB; split <;> omega
theorem cntB_congr {P Q : Nat → Bool} : ∀ n, (∀ c, c < n → P c = Q c) → cntB P n = cntB Q n := by
  intro n
  induction n with
  | zero => intro _; rfl
  | succ n ih => intro h; unfold cntB; rw [ih (fun c hc => h c (by omega)), h n (by omega)]
theorem cntB_pos {P : Nat → Bool} {a : Nat} : ∀ n, a < n → P a = true → 1 ≤ cntB P n := by
  intro n
  induction n with
  | zero => intro h; omega
  | succ n ih =>
    intro h hP
    unfold cntB
    by_cases han : a = n
    · subst han; rw [if_pos hP]; omega
    · have := ih (by omega) hP; omega
theorem cntB_two {P : Nat → Bool} {a b : Nat} : ∀ n, a < n → b < n → P a = true → P b = true → a ≠ b → 2 ≤ cntB P n := by
  intro n
  induction n with
  | zero => intro h; omega
  | succ n ih =>
    intro ha hb hPa hPb hne
    unfold cntB
    by_cases han : a = n
    · subst han; rw [if_pos hPa]; have := cntB_pos (P := P) (a := b) a (by omega) hPb; omega
    · by_cases hbn : b = n
      · subst hbn; rw [if_pos hPb]; have := cntB_pos (P := P) (a := a) b (by omega) hPa; omega
      · have := ih (by omega) (by omega) hPa hPb hne; omega
theorem cntB_one {P : Nat → Bool} {b : Nat} : ∀ n, b < n → (∀ c, c < n → (P c = true ↔ c = b)) → cntB P n = 1 := by
  intro n
  induction n with
  | zero => intro h; omega
  | succ n ih =>
    intro hb h
    unfold cntB
    by_cases hbn : b = n
    · subst hbn
      rw [if_pos ((h b (by omega)).mpr rfl)]
      have : cntB P b = 0 := by
        have h0 : ∀ m, m ≤ b → cntB P m = 0 := by
          intro m
          induction m with
          | zero => intro _; rfl
          | succ m ihm =>
            intro hm
            unfold cntB
            rw [ihm (by omega), if_neg (fun hp' => absurd ((h m (by omega)).mp hp') (by omega))]
        exact h0 b (Nat.le_refl _)
      omega
    · rw [if_neg (fun hp' => hbn ((h n (by omega)).mp hp').symm), ih (by omega) (fun c hc => h c (by omega))]
theorem cntB_all0 {P : Nat → Bool} : ∀ n, (∀ c, c < n → P c = false) → cntB P n = 0 := by
  intro n
  induction n with
  | zero => intro _; rfl
  | succ n ih => intro h; unfold cntB; rw [ih (fun c hc => h c (by omega)), h n (by omega)]; rfl
/-- what a case brings: a ray's lack beyond all points, or what its price is above its reach, weighed -/
noncomputable def keyZ (g : PD) (cs : List (List Int32)) (plan : Int32) (c : Nat) : Int := if lackP g c plan ≤ 0 then (pWt g c).toInt * ((priceP g c plan).toInt - (rchP g cs c plan).toInt) else (lackP g c plan).toInt + 1000000
def pkR (key : Nat → Int) (n : Nat) (way : Int32) (c : Nat) : Prop := 0 < key c ∧ (way = 0 ∨ isAm key n (some c))
noncomputable def pkB (key : Nat → Int) (n : Nat) (way : Int32) (c : Nat) : Bool := @decide (pkR key n way c) (Classical.propDecidable _)
theorem pkB_iff {key : Nat → Int} {n : Nat} {way : Int32} {c : Nat} : pkB key n way c = true ↔ pkR key n way c := by
  unfold pkB
  exact @decide_eq_true_iff _ (Classical.propDecidable _)
theorem priceR_rng {g : PD} {c : Nat} {plan x : Int32} (h : priceR g c plan x) (hl : lackP g c plan ≤ 0) : 0 ≤ x.toInt ∧ x.toInt ≤ 47520 := by
  rcases h with ⟨h1, _⟩ | ⟨_, u, _, _, _, h2, h3⟩
  · exact absurd hl h1
  · exact ⟨h2, h3⟩
theorem lack_nn {g : PD} {c : Nat} {plan : Int32} : 0 ≤ (lackP g c plan).toInt := (maxN_ge (f := fun set => loadP g c set - poolP g plan set) 16).2
theorem wt_rng {g : PD} (hg : wfP g) {c : Nat} (hc : c < pNc g) : 1 ≤ (pWt g c).toInt ∧ (pWt g c).toInt ≤ 9 := hg.2.2.2.2.2.2.2.1 c hc
theorem key_pt {g : PD} (hg : wfP g) {cs : List (List Int32)} {plan : Int32} {c : Nat} (hc : c < pNc g) {x r : Int32} (hx : priceR g c plan x) (hl : lackP g c plan ≤ 0) (hr : r = rchP g cs c plan) (hr1 : 0 ≤ r.toInt ∧ r.toInt ≤ 100000) : (pWt g c * (x - r)).toInt = keyZ g cs plan c ∧ keyZ g cs plan c ≤ 900000 ∧ (0 < keyZ g cs plan c ↔ ¬ x ≤ r) := by
  have h1 := priceR_rng hx hl
  have h2 := wt_rng hg hc
  have e1 : (x - r).toInt = x.toInt - r.toInt := ti_sub (by omega) (by omega)
  have b : -900000 ≤ (pWt g c).toInt * (x.toInt - r.toInt) ∧ (pWt g c).toInt * (x.toInt - r.toInt) ≤ 900000 := by
    generalize (pWt g c).toInt = w at h2
    have : w = 1 ∨ w = 2 ∨ w = 3 ∨ w = 4 ∨ w = 5 ∨ w = 6 ∨ w = 7 ∨ w = 8 ∨ w = 9 := by omega
    rcases this with h | h | h | h | h | h | h | h | h <;> subst h <;> omega
  have e2 : (pWt g c * (x - r)).toInt = (pWt g c).toInt * (x.toInt - r.toInt) := by
    rw [ti_mul (by rw [e1]; omega) (by rw [e1]; omega), e1]
  have e3 : keyZ g cs plan c = (pWt g c).toInt * (x.toInt - r.toInt) := by
    unfold keyZ
    rw [if_pos hl, priceP_eq hx, hr]
  rw [e3, ti_le]
  refine ⟨e2, b.2, ?_⟩
  constructor
  · intro h
    apply Int.not_le.mpr
    apply Int.lt_of_not_ge
    intro h'
    have : (pWt g c).toInt * (x.toInt - r.toInt) ≤ 0 := Int.mul_nonpos_of_nonneg_of_nonpos (by omega) (by omega)
    omega
  · intro h
    exact Int.mul_pos (by omega) (by omega)
theorem key_ray {g : PD} {cs : List (List Int32)} {plan : Int32} {c : Nat} (hl : ¬ lackP g c plan ≤ 0) : keyZ g cs plan c = (lackP g c plan).toInt + 1000000 ∧ 0 < (lackP g c plan).toInt := by
  unfold keyZ
  rw [if_neg hl]
  rw [ti_le] at hl
  exact ⟨rfl, by have : (0 : Int32).toInt = 0 := rfl; omega⟩
theorem enc_m1 {r : Option Nat} (h : ∀ b, r = some b → b < 4) : encO r = -1 ↔ r = none := by
  cases r with
  | none => exact ⟨fun _ => rfl, fun _ => rfl⟩
  | some b => exact ⟨fun h' => absurd h' (nI_ne_m1 (h b rfl)), fun h' => absurd h' (by simp)⟩
theorem isAm_lt {key : Nat → Int} {n : Nat} {r : Option Nat} (h : isAm key n r) : ∀ b, r = some b → b < n := by
  intro b hb
  subst hb
  exact h.1
def worO (key : Nat → Int) (r : Option Nat) : Int := match r with
  | none => 0
  | some b => key b
theorem isAm_if {key : Nat → Int} {n : Nat} {r : Option Nat} (h : isAm key n r) : (key n ≤ worO key r → isAm key (n + 1) r) ∧ (¬ key n ≤ worO key r → isAm key (n + 1) (some n)) := by
  constructor
  · intro h1
    exact isAm_old h (fun b hb => by subst hb; exact h1) (fun hb => by subst hb; exact h1)
  · intro h1
    have h2 : worO key r < key n := by omega
    refine isAm_new h (fun b hb => by subst hb; exact h2) ?_
    cases r with
    | none => exact h2
    | some b => have := h.2.1; have h3 : key b < key n := h2; omega
theorem Eng_worstCase_w {w : Wd} {n : Nat} {cs : List (List Int32)} (hw : WL w) (hg : wfP (pdW w 2)) (hk : ldOk w (pdW w 2)) (h6 : w.2 17 6 = nI n) (hpr : ∀ c, c < pNc (pdW w 2) → priceR (pdW w 2) c (nI n) ((w.1 36).getD c 0)) (hrc : ∀ c, c < pNc (pdW w 2) → (w.1 37).getD c 0 = rchP (pdW w 2) cs c (nI n)) (hrb : ∀ c, c < pNc (pdW w 2) → 0 ≤ (rchP (pdW w 2) cs c (nI n)).toInt ∧ (rchP (pdW w 2) cs c (nI n)).toInt ≤ 100000) : ∃ w' r, Eng_worstCase 17 2 (hp w) = some (encO r, hp w') ∧ isAm (keyZ (pdW w 2) cs (nI n)) (pNc (pdW w 2)) r ∧ WL w' ∧ Fr w w' 20 24 ∧ ldOk w' (pdW w 2) := by
  have hnc := hg.1.2.2
  obtain ⟨q, i1, W, r, worst, rfl, hA, hwo, hW, hF, hld⟩ := iter_I (body := Eng_worstCase_b7 17 2) (fun j st => ∃ W r worst, st = (encO r, worst, nI j, hp W) ∧ isAm (fun c => if lackP (pdW w 2) c (nI n) ≤ 0 then 0 else (lackP (pdW w 2) c (nI n)).toInt) j r ∧ worst.toInt = worO (fun c => if lackP (pdW w 2) c (nI n) ≤ 0 then 0 else (lackP (pdW w 2) c (nI n)).toInt) r ∧ WL W ∧ Fr w W 20 24 ∧ ldOk W (pdW w 2)) (fun q => ∃ W r worst, q = (encO r, worst, nI (pNc (pdW w 2)), hp W) ∧ isAm (fun c => if lackP (pdW w 2) c (nI n) ≤ 0 then 0 else (lackP (pdW w 2) c (nI n)).toInt) (pNc (pdW w 2)) r ∧ worst.toInt = worO (fun c => if lackP (pdW w 2) c (nI n) ≤ 0 then 0 else (lackP (pdW w 2) c (nI n)).toInt) r ∧ WL W ∧ Fr w W 20 24 ∧ ldOk W (pdW w 2)) (pNc (pdW w 2)) (s0 := ((-1), 0, 0, hp w)) (by omega) ⟨w, none, 0, rfl, fun c hc => absurd hc (by omega), rfl, hw, Fr.rfl', hk⟩ (by
    rintro j st hj ⟨W, r, worst, rfl, hA, hwo, hW, hF, hld⟩
    left
    have hcn : ¬ nI (pNc (pdW w 2)) ≤ nI j := nI_ge hj (by omega)
    have e2 : W.2 2 2 = nI (pNc (pdW w 2)) := by rw [(hF 2 (by omega)).2]; exact hnc.1
    have eg : pdW W 2 = pdW w 2 := pd_fr hF (by omega)
    have e6 : W.2 17 6 = nI n := by rw [(hF 17 (by omega)).2]; exact h6
    have L36 := l36 hW
    have a36 : ald 0 (hp W) 36 (nI j) = some ((w.1 36).getD j 0) := by rw [ald_w (j := j) s36 rfl (by omega) (by omega), (hF 36 (by omega)).1]
    have p2 := hpr j hj
    have fin : ∀ (V : Wd) (t : Int32), WL V → Fr w V 20 24 → ldOk V (pdW w 2) → t.toInt = (if lackP (pdW w 2) j (nI n) ≤ 0 then 0 else (lackP (pdW w 2) j (nI n)).toInt) → ∃ s', Eng_worstCase_j48 17 2 (encO r) worst (nI j) t (hp V) = some (.inl s') ∧ ∃ W r worst, s' = (encO r, worst, nI (j + 1), hp W) ∧ isAm (fun c => if lackP (pdW w 2) c (nI n) ≤ 0 then 0 else (lackP (pdW w 2) c (nI n)).toInt) (j + 1) r ∧ worst.toInt = worO (fun c => if lackP (pdW w 2) c (nI n) ≤ 0 then 0 else (lackP (pdW w 2) c (nI n)).toInt) r ∧ WL W ∧ Fr w W 20 24 ∧ ldOk W (pdW w 2) := by
      intro V t v1 v2 v3 ht
      have st := isAm_if hA
      simp only [← ht, ← hwo] at st
      unfold Eng_worstCase_j48
      simp only [Eng_worstCase_j62, nI_1]
      by_cases hx : t ≤ worst
      · rw [if_pos hx]
        exact ⟨_, rfl, V, r, worst, rfl, st.1 (ti_le.mp hx), hwo, v1, v2, v3⟩
      · rw [if_neg hx]
        exact ⟨_, rfl, V, some j, t, rfl, st.2 (fun h => hx (ti_le.mpr h)), ht, v1, v2, v3⟩
    simp only [Eng_worstCase_b7, c2_2, Option.bind_some, e2, if_neg hcn, c17_2, a36]
    by_cases hx : (w.1 36).getD j 0 = -1
    · rw [if_neg (fun h => h hx)]
      have hl := (priceR_m1 p2).mp hx
      obtain ⟨V, a1, a2, a3, a4, a5, a6, a7⟩ := Frt_lackAt_w (plan := nI n) (c := j) hW (by rw [eg]; exact hg) (by omega) (by rw [eg]; exact hld)
      rw [eg] at a1 a5
      simp only [c17_0, c18_0, c17_6, e6, k19, Option.bind_some, a1, bnd2_some]
      exact fin V _ a2 (hF.tr a7) a5 (by rw [if_neg hl])
    · rw [if_pos hx]
      have hl : lackP (pdW w 2) j (nI n) ≤ 0 := by
        apply Decidable.byContradiction
        intro h
        exact hx ((priceR_m1 p2).mpr h)
      exact fin W 0 hW hF hld (by rw [if_pos hl]; rfl)) (by
    rintro st ⟨W, r, worst, rfl, h⟩
    have hF : Fr w W 20 24 := h.2.2.2.1
    have e2 : W.2 2 2 = nI (pNc (pdW w 2)) := by rw [(hF 2 (by omega)).2]; exact hnc.1
    exact ⟨(encO r, worst, nI (pNc (pdW w 2)), hp W), by simp only [Eng_worstCase_b7, c2_2, Option.bind_some, e2, if_pos (nI_le (Nat.le_refl _) (show pNc (pdW w 2) < 2 ^ 31 by omega))], W, r, worst, rfl, h⟩)
  simp only [Eng_worstCase, i1, Option.bind_some, Eng_worstCase_j68]
  cases r with
  | some b =>
    rw [if_neg (show ¬ encO (some b) = -1 from nI_ne_m1 (show b < 4 by have := hA.1; omega))]
    refine ⟨W, some b, rfl, ?_, hW, hF, hld⟩
    have hb : ¬ lackP (pdW w 2) b (nI n) ≤ 0 := by
      intro h
      have := hA.2.1
      simp only [if_pos h] at this
      omega
    have kb := key_ray (cs := cs) hb
    refine ⟨hA.1, by omega, fun c hc => ?_⟩
    have hcb := hA.2.2 c hc
    simp only [if_neg hb] at hcb
    by_cases hl : lackP (pdW w 2) c (nI n) ≤ 0
    · have kc := key_pt (cs := cs) hg hc (hpr c hc) hl rfl (hrb c hc)
      exact ⟨by omega, fun _ => by omega⟩
    · have kc := key_ray (cs := cs) hl
      simp only [if_neg hl] at hcb
      exact ⟨by omega, fun h => by have := hcb.2 h; omega⟩
  | none =>
    rw [if_pos (show encO none = -1 from rfl)]
    have hl : ∀ c, c < pNc (pdW w 2) → lackP (pdW w 2) c (nI n) ≤ 0 := by
      intro c hc
      apply Decidable.byContradiction
      intro h
      have := hA c hc
      simp only [if_neg h] at this
      have := (key_ray (cs := cs) h).2
      omega
    have hw0 : worst.toInt = 0 := hwo
    obtain ⟨q, i2, r, wo, rfl, hA2⟩ := iter_I (body := Eng_worstCase_b78 17 2 (hp W)) (fun j st => ∃ r wo, st = (encO r, wo, nI j) ∧ isAm (keyZ (pdW w 2) cs (nI n)) j r ∧ wo.toInt = worO (keyZ (pdW w 2) cs (nI n)) r) (fun q => ∃ r wo, q = (encO r, wo, nI (pNc (pdW w 2))) ∧ isAm (keyZ (pdW w 2) cs (nI n)) (pNc (pdW w 2)) r) (pNc (pdW w 2)) (s0 := (encO none, worst, 0)) (by omega) ⟨none, worst, rfl, fun c hc => absurd hc (by omega), hw0⟩ (by
      rintro j st hj ⟨r, wo, rfl, hA, hwo⟩
      left
      have hcn : ¬ nI (pNc (pdW w 2)) ≤ nI j := nI_ge hj (by omega)
      have e2 : W.2 2 2 = nI (pNc (pdW w 2)) := by rw [(hF 2 (by omega)).2]; exact hnc.1
      have L36 := l36 hW
      have L37 := l37 hW
      have L7 := l7 hW
      have a36 : ald 0 (hp W) 36 (nI j) = some ((w.1 36).getD j 0) := by rw [ald_w (j := j) s36 rfl (by omega) (by omega), (hF 36 (by omega)).1]
      have a37 : ald 0 (hp W) 37 (nI j) = some ((w.1 37).getD j 0) := by rw [ald_w (j := j) s37 rfl (by omega) (by omega), (hF 37 (by omega)).1]
      have a7 : ald 0 (hp W) 7 (nI j) = some (pWt (pdW w 2) j) := by rw [ald_w (j := j) s7 rfl (by omega) (by omega), (hF 7 (by omega)).1]; rfl
      have kj := key_pt (cs := cs) hg hj (hpr j hj) (hl j hj) (hrc j hj) (by rw [hrc j hj]; exact hrb j hj)
      have st := isAm_if hA
      rw [← kj.1, ← hwo] at st
      simp only [Eng_worstCase_b78, c2_2, Option.bind_some, e2, if_neg hcn, c2_7, a7, c17_2, a36, c17_3, a37, Eng_worstCase_j124, nI_1]
      by_cases hx : pWt (pdW w 2) j * ((w.1 36).getD j 0 - (w.1 37).getD j 0) ≤ wo
      · rw [if_pos hx]
        exact ⟨_, rfl, r, wo, rfl, st.1 (ti_le.mp hx), hwo⟩
      · rw [if_neg hx]
        exact ⟨_, rfl, some j, _, rfl, st.2 (fun h => hx (ti_le.mpr h)), kj.1⟩) (by
      rintro st ⟨r, wo, rfl, hA, hwo⟩
      have e2 : W.2 2 2 = nI (pNc (pdW w 2)) := by rw [(hF 2 (by omega)).2]; exact hnc.1
      exact ⟨(encO r, wo, nI (pNc (pdW w 2))), by simp only [Eng_worstCase_b78, c2_2, Option.bind_some, e2, if_pos (nI_le (Nat.le_refl _) (show pNc (pdW w 2) < 2 ^ 31 by omega))], r, wo, rfl, hA⟩)
    simp only [i2, Option.bind_some, Eng_worstCase_j130]
    exact ⟨W, r, rfl, hA2, hW, hF, hld⟩
