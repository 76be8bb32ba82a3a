/-! image, back -/
theorem st_at1 {w : Wd} {a j : Nat} {i : Int32} (hw : WL w) (h : shp[a]? = some (.inr (.inl 1))) (hi : i = nI j) (hj : j < lenT.getD a 0) (hb : j < 2 ^ 31) : ∃ V, ast 1 (hp w) a i 1 = some (hp V) ∧ WL V ∧ V.1 a = (w.1 a).set j 1 ∧ V.2 = w.2 ∧ Fr w V a (a + 1) := by
  refine ⟨_, ast_w h hi (by rw [hw a]; exact hj) hb, hw.A (by rw [List.length_set]; exact hw a), ?_, rfl, Fr.A (by omega) (by omega)⟩
  show (if a = a then (w.1 a).set j (nar 1 1) else w.1 a) = _
  exact if_pos rfl
theorem cp_at {w : Wd} {a b i j n : Nat} {sp dp m : Int32} (hw : WL w) (ha : shp[a]? = some (.inr (.inl 0))) (hb : shp[b]? = some (.inr (.inl 0))) (e1 : sp = nI i) (e2 : dp = nI j) (e3 : m = nI n) (b1 : i < 2 ^ 31) (b2 : j < 2 ^ 31) (b3 : n < 2 ^ 31) (h1 : i + n ≤ lenT.getD a 0) (h2 : j + n ≤ lenT.getD b 0) : ∃ V, acp (hp w) a sp b dp m = some (hp V) ∧ WL V ∧ V.1 b = cpyL (w.1 a) (w.1 b) i j n ∧ V.2 = w.2 ∧ Fr w V b (b + 1) := by
  refine ⟨_, acp_w ha hb e1 e2 e3 b1 b2 b3 (by rw [hw a]; exact h1) (by rw [hw b]; exact h2), hw.A (by rw [cpy_len]; exact hw b), ?_, rfl, Fr.A (by omega) (by omega)⟩
  show (if b = b then cpyL (w.1 a) (w.1 b) i j n else w.1 b) = _
  exact if_pos rfl
/-- a piece of one row copied into another -/
def scI (w W : Wd) (a b da db j : Nat) : Prop := WL W ∧ Fr w W a (a + 1) ∧ W.2 = w.2 ∧ ∀ k, (W.1 a).getD k 0 = if da ≤ k ∧ k < da + j then (w.1 b).getD (db + (k - da)) 0 else (w.1 a).getD k 0
theorem scI.zero {w : Wd} {a b da db : Nat} (hw : WL w) : scI w w a b da db 0 := ⟨hw, Fr.rfl', rfl, fun k => by rw [if_neg (by omega)]⟩
theorem scI.step {w W V : Wd} {a b da db j : Nat} (h : scI w W a b da db j) (hj : da + j < lenT.getD a 0) (v2 : WL V) (v3 : V.1 a = (W.1 a).set (da + j) ((w.1 b).getD (db + j) 0)) (v4 : V.2 = W.2) (v5 : Fr W V a (a + 1)) : scI w V a b da db (j + 1) := by
  obtain ⟨h1, h2, h3, h4⟩ := h
  refine ⟨v2, h2.tr v5, by rw [v4, h3], fun k => ?_⟩
  rw [v3, gD_set, h4 k, h1 a]
  by_cases hk : da + j = k
  · subst hk
    rw [if_pos ⟨rfl, hj⟩, if_pos (by omega), show db + (da + j - da) = db + j by omega]
  · rw [if_neg (fun hh => hk hh.1)]
    by_cases hk2 : da ≤ k ∧ k < da + j
    · rw [if_pos hk2, if_pos (by omega)]
    · rw [if_neg hk2, if_neg (by omega)]
theorem slc_full {r q : List Int32} {a n : Nat} (hq : q.length = n) (h : ∀ k, k < n → q.getD k 0 = r.getD (a + k) 0) : slc r a n = q := by
  apply ext_gD
  · unfold slc; rw [List.length_map, List.length_range, hq]
  · intro k hk
    rw [slc_get (by omega), h k (by omega)]
theorem isSt_i {k : Nat} (h : k < 2) : isSt (imB k) := by
  have : k = 0 ∨ k = 1 := by omega
  rcases this with rfl | rfl
  · exact isSt_244
  · exact isSt_259
theorem im_ref {w : Wd} {k : Nat} (h : k < 2) : aldR (hp w) 232 (nI k) = some (imB k) := by
  refine aldR_w (rs := [244, 259]) (j := k) (by decide +kernel) rfl ?_ (by omega)
  have : k = 0 ∨ k = 1 := by omega
  rcases this with rfl | rfl <;> rfl
theorem im_chk {w : Wd} {k : Nat} (h : k < 2) : chk (hp w) (imB k) 8 = some () := chk_w (isSt_i h).1
section Rd
variable {w : Wd} {st : ST} {tm : List Int32} {x : Nat} {hi : List (ST × Int32)} {im im' : Nat → Option (ST × List Int32)} {rf : Nat → Int32} {ss : Int32} {tp : List Int32} {ft : Int32}
theorem clsI_im {w' : Wd} (h : clsI w st tm x hi im rf ss tp ft) (hw' : WL w') (hF : ∀ i, i ≠ 233 → i ≠ 234 → (i < 244 ∨ 274 ≤ i) → w'.1 i = w.1 i ∧ w'.2 i = w.2 i) (hM : clsM w' im') : clsI w' st tm x hi im' rf ss tp ft := by
  obtain ⟨h0, ⟨h1, h2, h3, h4, h5⟩, h6, h7, h8, h9, h10⟩ := h
  have f : ∀ i, i ≠ 233 → i ≠ 234 → (i < 244 ∨ 274 ≤ i) → w'.1 i = w.1 i ∧ w'.2 i = w.2 i := hF
  have hs := st_same (w := w) (w' := w') (b := 1) (fun i _ h2 => f i (by omega) (by omega) (by omega))
  refine ⟨hw', ⟨hs.2 h1, by rw [hs.1]; exact h2, bkOk_fr h3 (f 22 (by omega) (by omega) (by omega)).1 (f 23 (by omega) (by omega) (by omega)).1 (f 32 (by omega) (by omega) (by omega)).1, ?_, by rw [(f 235 (by omega) (by omega) (by omega)).2]; exact h5⟩, by rw [(f 16 (by omega) (by omega) (by omega)).1]; exact h6, clsH_fr h7 (fun i _ h => f i (by omega) (by omega) (by omega)), hM, ?_, ?_⟩
  · rw [(f 33 (by omega) (by omega) (by omega)).2]
    rcases h4 with h | ⟨h, h'⟩
    · exact Or.inl h
    · exact Or.inr ⟨h, bdA_fr h' (f 34 (by omega) (by omega) (by omega)).1 (f 35 (by omega) (by omega) (by omega)).1⟩
  · unfold clsR at h9 ⊢
    rw [(f 243 (by omega) (by omega) (by omega)).1, (f 0 (by omega) (by omega) (by omega)).2]; exact h9
  · unfold clsT at h10 ⊢
    rw [(f 41 (by omega) (by omega) (by omega)).1, (f 40 (by omega) (by omega) (by omega)).2]; exact h10
theorem refI_im {w' : Wd} (h : refI w st tm x hi im rf ss tp ft) (hw' : WL w') (hF : ∀ i, i ≠ 285 → i ≠ 286 → w'.1 i = w.1 i) (h2 : w'.2 = w.2) (hM : refM w' im') : refI w' st tm x hi im' rf ss tp ft := by
  obtain ⟨h0, h1, h2', h3, h4, h5, h6, h7⟩ := h
  refine ⟨hw', by rw [hF 279 (by omega) (by omega)]; exact h1, by rw [hF 276 (by omega) (by omega)]; exact h2', by rw [hF 277 (by omega) (by omega), hF 278 (by omega) (by omega)]; exact h3, ?_, hM, ?_, ?_⟩
  · unfold refH at h4 ⊢
    rw [h2, hF 283 (by omega) (by omega), hF 284 (by omega) (by omega)]; exact h4
  · unfold refR at h6 ⊢
    rw [h2, hF 275 (by omega) (by omega)]; exact h6
  · unfold refT at h7 ⊢
    rw [h2, hF 282 (by omega) (by omega)]; exact h7
theorem cls_image (h : clsI w st tm x hi im rf ss tp ft) (ht : tm.length = 4) {k : Nat} (hk : k < 2) : ∃ w', Sp_image 0 (nI k) (hp w) = some (0, hp w') ∧ clsI w' st tm x hi (fun j => if j = k then some (st, tm) else im j) rf 0 tp ft ∧ Fr w w' 0 274 := by
  have hb : 244 ≤ imB k ∧ imB k + 15 ≤ 274 := by unfold imB; omega
  have hM := h.2.2.2.2.1
  obtain ⟨w1, a1, b1, c1, d1, e1⟩ := Stat_copyFrom_w (w := w) (isSt_i hk) isSt_1 (by omega) h.1 (hM k hk).1 h.2.1.1
  rw [h.2.1.2.1] at c1
  have ei : nI k * 4 = nI (4 * k) := by rw [show (4 : Int32) = nI 4 from rfl, nI_mul, Nat.mul_comm]
  obtain ⟨w2, a2, b2, c2, d2, e2⟩ := cp_at (a := 16) (b := 233) (i := 0) (j := 4 * k) (n := 4) (sp := 0) (dp := nI k * 4) (m := 4) b1 s16 s233 rfl ei rfl (by omega) (by omega) (by omega) (by decide) (show 4 * k + 4 ≤ 8 by omega)
  obtain ⟨w3, a3, b3, c3, d3, e3⟩ := st_at1 (a := 234) (j := k) (i := nI k) b2 s234 rfl (show k < 2 from hk) (by omega)
  have hF : ∀ i, i ≠ 233 → i ≠ 234 → (i < imB k ∨ imB k + 15 ≤ i) → w3.1 i = w.1 i ∧ w3.2 i = w.2 i := by
    intro i i1 i2 i3
    have q3 := e3 i (by omega)
    have q2 := e2 i (by omega)
    have q1 := e1 i (by omega)
    exact ⟨q3.1.trans (q2.1.trans q1.1), q3.2.trans (q2.2.trans q1.2)⟩
  have h233 : w3.1 233 = cpyL tm (w.1 233) 0 (4 * k) 4 := by
    rw [(e3 233 (by omega)).1, c2, (e1 16 (by omega)).1, (e1 233 (by omega)).1, h.2.2.1]
  have h234 : w3.1 234 = (w.1 234).set k 1 := by
    rw [c3, (e2 234 (by omega)).1, (e1 234 (by omega)).1]
  have L233 : (w.1 233).length = 8 := h.1 233
  have hI : clsI w3 st tm x hi (fun j => if j = k then some (st, tm) else im j) rf ss tp ft := by
    refine clsI_im h b3 (fun i i1 i2 i3 => hF i i1 i2 (by omega)) ?_
    intro j hj
    by_cases hjk : j = k
    · subst hjk
      have hs := st_same (w := w1) (w' := w3) (b := imB j) (fun i h1 h2 => ⟨((e3 i (by omega)).1).trans (e2 i (by omega)).1, ((e3 i (by omega)).2).trans (e2 i (by omega)).2⟩)
      refine ⟨(hs.2 d1).1, ?_, fun s hs' => ?_⟩
      · rw [h234, gD_set, if_pos ⟨rfl, by rw [l234 h.1]; exact hj⟩]
        show (1 : Int32) = b2i (if j = j then some (st, tm) else im j).isSome
        rw [if_pos rfl]; rfl
      · have : (if j = j then some (st, tm) else im j) = some s := hs'
        rw [if_pos rfl] at this
        have := Option.some.inj this
        subst this
        refine ⟨by rw [hs.1]; exact c1, hs.2 d1, ?_⟩
        rw [h233]
        refine slc_full ht (fun q hq => ?_)
        rw [gD_cpy, if_pos ⟨by omega, by omega⟩, show 0 + (4 * j + q - 4 * j) = q by omega]
    · have hb' : imB j + 15 ≤ imB k ∨ imB k + 15 ≤ imB j := by unfold imB; omega
      have hbj : 244 ≤ imB j ∧ imB j + 15 ≤ 274 := by unfold imB; omega
      have hs := st_same (w := w) (w' := w3) (b := imB j) (fun i h1 h2 => hF i (by omega) (by omega) (by omega))
      obtain ⟨m1, m2, m3⟩ := hM j hj
      refine ⟨by rw [(hF (imB j + 8) (by omega) (by omega) (by omega)).2]; exact m1, ?_, fun s hs' => ?_⟩
      · show _ = b2i (if j = k then some (st, tm) else im j).isSome
        rw [if_neg hjk, h234, gD_set, if_neg (fun hh => hjk hh.1.symm)]; exact m2
      · have hs'' : (if j = k then some (st, tm) else im j) = some s := hs'
        rw [if_neg hjk] at hs''
        obtain ⟨q1, q2, q3⟩ := m3 s hs''
        refine ⟨by rw [hs.1]; exact q1, hs.2 q2, ?_⟩
        rw [← q3, h233]
        exact slc_cg (fun q h1 h2 => by rw [gD_cpy, if_neg (by omega)])
  obtain ⟨w4, a4, b4, e4⟩ := cls_accept hI 0
  refine ⟨w4, ?_, b4, fun i hi => ⟨((e4 i (by omega)).1).trans (hF i (by omega) (by omega) (by omega)).1, ((e4 i (by omega)).2).trans (hF i (by omega) (by omega) (by omega)).2⟩⟩
  have c1' : ¬ nI k < 0 := nI_pos (by omega)
  have c2' : nI k < 2 := nI_lt (b := 2) hk (by omega)
  unfold Sp_image
  rw [if_neg c1', if_pos c2', c0_6, Option.bind_some, im_ref hk, Option.bind_some, c0_0, Option.bind_some, im_chk hk, Option.bind_some, a1, bnd2_some, c0_1, Option.bind_some, c0_7, Option.bind_some, a2, Option.bind_some, c0_8, Option.bind_some, a3, Option.bind_some, k0, Option.bind_some, a4, bnd2_some]
theorem ref_image (h : refI w st tm x hi im rf ss tp ft) (ht : tm.length = 4) {k : Nat} (hk : k < 2) : ∃ w', Mod_image 274 (nI k) (hp w) = some (0, hp w') ∧ refI w' st tm x hi (fun j => if j = k then some (st, tm) else im j) rf 0 tp ft ∧ Fr w w' 274 292 := by
  have eb : (1431 : Int32) * nI k = nI (1431 * k) := nI_mul 1431 k
  obtain ⟨q, i1, w1, rfl, h1⟩ := iter_I (body := Mod_image_b23 274 (nI k) (nI (1431 * k))) (fun j s => ∃ W, s = (nI j, hp W) ∧ scI w W 285 279 (1431 * k) 0 j) (fun r => ∃ W, r = (nI 1427, hp W) ∧ scI w W 285 279 (1431 * k) 0 1427) 1427 (s0 := (0, hp w)) (by omega) ⟨w, rfl, scI.zero h.1⟩ (by
    rintro j s hj ⟨W, rfl, hW⟩
    left
    have hcn : ¬ (1427 : Int32) ≤ nI j := nI_ge (b := 1427) hj (by omega)
    have q1 : ald 0 (hp W) 279 (nI j) = some ((w.1 279).getD (0 + j) 0) := by rw [ldN hW.1 rfl hj, (hW.2.1 279 (by omega)).1, Nat.zero_add]
    obtain ⟨V, v1, v2, v3, v4, v5⟩ := st_at (i := nI (1431 * k) + nI j) (x := (w.1 279).getD (0 + j) 0) (j := 1431 * k + j) hW.1 s285 (nI_add _ _) (show 1431 * k + j < 2862 by omega) (by omega)
    exact ⟨(nI (j + 1), hp V), by simp only [Mod_image_b23, if_neg hcn, c274_15, c274_5, Option.bind_some, q1, v1, nI_1], V, rfl, hW.step (show 1431 * k + j < 2862 by omega) v2 v3 v4 v5⟩) (by
    rintro s ⟨W, rfl, hW⟩
    exact ⟨(nI 1427, hp W), by simp only [Mod_image_b23, if_pos (show (1427 : Int32) ≤ nI 1427 by decide)], W, rfl, hW⟩)
  obtain ⟨q, i2, w2, rfl, h2⟩ := iter_I (body := Mod_image_b52 274 (nI k) (nI (1431 * k))) (fun j s => ∃ W, s = (nI j, hp W) ∧ scI w1 W 285 276 (1431 * k + 1427) 0 j) (fun r => ∃ W, r = (nI 4, hp W) ∧ scI w1 W 285 276 (1431 * k + 1427) 0 4) 4 (s0 := (0, hp w1)) (by omega) ⟨w1, rfl, scI.zero h1.1⟩ (by
    rintro j s hj ⟨W, rfl, hW⟩
    left
    have hcn : ¬ (4 : Int32) ≤ nI j := nI_ge (b := 4) hj (by omega)
    have q1 : ald 0 (hp W) 276 (nI j) = some ((w1.1 276).getD (0 + j) 0) := by rw [ald_w (j := j) s276 rfl (by rw [l276 hW.1]; exact hj) (by omega), (hW.2.1 276 (by omega)).1, Nat.zero_add]
    obtain ⟨V, v1, v2, v3, v4, v5⟩ := st_at (i := nI (1431 * k) + 1427 + nI j) (x := (w1.1 276).getD (0 + j) 0) (j := 1431 * k + 1427 + j) hW.1 s285 (by rw [show (1427 : Int32) = nI 1427 from rfl, nI_add, nI_add]) (show 1431 * k + 1427 + j < 2862 by omega) (by omega)
    exact ⟨(nI (j + 1), hp V), by simp only [Mod_image_b52, if_neg hcn, c274_15, c274_2, Option.bind_some, q1, v1, nI_1], V, rfl, hW.step (show 1431 * k + 1427 + j < 2862 by omega) v2 v3 v4 v5⟩) (by
    rintro s ⟨W, rfl, hW⟩
    exact ⟨(nI 4, hp W), by simp only [Mod_image_b52, if_pos (show (4 : Int32) ≤ nI 4 by decide)], W, rfl, hW⟩)
  obtain ⟨w3, a3, b3, c3, d3, e3⟩ := st_at1 (a := 286) (j := k) (i := nI k) h2.1 s286 rfl (show k < 2 from hk) (by omega)
  have f3 : ∀ i, i ≠ 285 → i ≠ 286 → w3.1 i = w.1 i := fun i i1 i2 => by
    rw [(e3 i (by omega)).1, (h2.2.1 i (by omega)).1, (h1.2.1 i (by omega)).1]
  have g3 : w3.2 = w.2 := by rw [d3, h2.2.2.1, h1.2.2.1]
  have h285 : ∀ q, (w3.1 285).getD q 0 = if 1431 * k + 1427 ≤ q ∧ q < 1431 * k + 1427 + 4 then tm.getD (q - (1431 * k + 1427)) 0 else if 1431 * k ≤ q ∧ q < 1431 * k + 1427 then (w.1 279).getD (q - 1431 * k) 0 else (w.1 285).getD q 0 := by
    intro q
    rw [(e3 285 (by omega)).1, h2.2.2.2 q, h1.2.2.2 q, (h1.2.1 276 (by omega)).1, h.2.2.1, Nat.zero_add, Nat.zero_add]
  have h286 : w3.1 286 = (w.1 286).set k 1 := by
    rw [c3, (h2.2.1 286 (by omega)).1, (h1.2.1 286 (by omega)).1]
  have hM := h.2.2.2.2.2.1
  have hI : refI w3 st tm x hi (fun j => if j = k then some (st, tm) else im j) rf ss tp ft := by
    refine refI_im h b3 f3 g3 ?_
    intro j hj
    by_cases hjk : j = k
    · subst hjk
      refine ⟨?_, fun s hs' => ?_⟩
      · rw [h286, gD_set, if_pos ⟨rfl, by rw [l286 h.1]; exact hj⟩]
        show (1 : Int32) = b2i (if j = j then some (st, tm) else im j).isSome
        rw [if_pos rfl]; rfl
      · have : (if j = j then some (st, tm) else im j) = some s := hs'
        rw [if_pos rfl] at this
        have := Option.some.inj this
        subst this
        refine ⟨?_, ?_⟩
        · have e : slc (w3.1 285) (1431 * j) 1427 = w.1 279 := slc_full (l279 h.1) (fun q hq => by
            rw [h285, if_neg (by omega), if_pos (by omega), show 1431 * j + q - 1431 * j = q by omega])
          rw [e]; exact h.2.1
        · exact slc_full ht (fun q hq => by
            rw [h285, if_pos (by omega), show 1431 * j + 1427 + q - (1431 * j + 1427) = q by omega])
    · obtain ⟨m2, m3⟩ := hM j hj
      refine ⟨?_, fun s hs' => ?_⟩
      · show _ = b2i (if j = k then some (st, tm) else im j).isSome
        rw [if_neg hjk, h286, gD_set, if_neg (fun hh => hjk hh.1.symm)]; exact m2
      · have hs'' : (if j = k then some (st, tm) else im j) = some s := hs'
        rw [if_neg hjk] at hs''
        obtain ⟨q1, q2⟩ := m3 s hs''
        have e : ∀ q, 1431 * j ≤ q → q < 1431 * j + 1431 → (w3.1 285).getD q 0 = (w.1 285).getD q 0 := fun q q1 q2 => by rw [h285, if_neg (by omega), if_neg (by omega)]
        exact ⟨by rw [slc_cg (r := w.1 285) (fun q h1 h2 => e q (by omega) (by omega))]; exact q1, by rw [slc_cg (r := w.1 285) (fun q h1 h2 => e q (by omega) (by omega))]; exact q2⟩
  obtain ⟨w4, a4, b4, e4⟩ := ref_accept hI 0
  refine ⟨w4, ?_, b4, fun i hi => ⟨((e4 i (by omega)).1).trans (f3 i (by omega) (by omega)), ((e4 i (by omega)).2).trans (by rw [g3])⟩⟩
  unfold Mod_image
  have hin : isInP (nI k) 0 1 = true := by
    rw [isIn_iff, ti_0, show (1 : Int32).toInt = 1 from rfl, nI_toInt (by omega)]; omega
  rw [Mod_isIn_w, bnd2_some, b2i_t hin, if_pos (by decide), eb, i1, Option.bind_some]
  unfold Mod_image_j50
  rw [i2, Option.bind_some]
  unfold Mod_image_j81
  rw [c274_16, Option.bind_some, a3, Option.bind_some, k274, Option.bind_some, a4, bnd2_some]
theorem call_image (h : lawJ w st tm x hi im rf ss tp ft) (a : Int32) : callOk w (Sp_image 0 a) (Mod_image 274 a) := by
  have ht := h.1.2.1.1
  have t1 : (1 : Int32).toInt = 1 := rfl
  have t2 : (2 : Int32).toInt = 2 := rfl
  by_cases ha : isInP a 0 1 = true
  · have ha' := isIn_iff.mp ha
    rw [ti_0, t1] at ha'
    obtain ⟨k, hk, rfl, hk2⟩ := i32_nat (i := a) (by omega)
    refine law_step (y := 0) h (cls_image h.2.1 ht (k := k) (by omega)) (fun w1 hr => ref_image hr ht (k := k) (by omega)) ?_
    obtain ⟨v1, v2, v3, v4, v5, v6⟩ := h.1
    refine ⟨v1, v2, v3, v4, v5, fun j s hj hs => ?_⟩
    have hs' : (if j = k then some (st, tm) else im j) = some s := hs
    by_cases hjk : j = k
    · rw [if_pos hjk] at hs'
      have := Option.some.inj hs'
      subst this
      exact ⟨v1, v2⟩
    · rw [if_neg hjk] at hs'
      exact v6 j s hj hs'
  · refine law_refuse (m := 0) (b := -1) h (by omega) (by decide) ?_ (fun w1 hr => ?_)
    · have j9 : Sp_image_j9 0 a (hp w) = bnd2 (Sp_refuse 0 (-1) (hp w)) (fun x h => some (x, h)) := by
        unfold Sp_image_j9
        rw [k0, Option.bind_some]
      rw [isIn_iff, ti_0, t1] at ha
      unfold Sp_image
      by_cases h1 : a < 0
      · rw [if_pos h1, j9]
      · rw [if_neg h1]
        rw [ti_lt, ti_0] at h1
        rw [if_neg (by rw [ti_lt, t2]; omega), j9]
    · unfold Mod_image
      rw [Mod_isIn_w, bnd2_some, b2i_f ha, if_neg (fun hh => hh rfl), k274, Option.bind_some]
end Rd
