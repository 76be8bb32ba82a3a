/-! a step kept, in both -/
theorem pf_eq {w : Wd} {a ci k : Nat} {x : Int32} (hw : WL w) (e : pfV (hp w) a ci k (.int x) = some (hp (wF w a k x))) : ∃ V, pfV (hp w) a ci k (.int x) = some (hp V) ∧ WL V ∧ V.1 = w.1 ∧ V.2 a k = x ∧ (∀ j, j ≠ k → V.2 a j = w.2 a j) ∧ Fr w V a (a + 1) := by
  refine ⟨_, e, hw.F, rfl, ?_, fun j hj => ?_, Fr.F (by omega) (by omega)⟩
  · show (if a = a ∧ k = k then x else w.2 a k) = x
    exact if_pos ⟨rfl, rfl⟩
  · show (if a = a ∧ j = k then x else w.2 a j) = _
    exact if_neg (fun h => hj h.2)
def push (e : ST × Int32) (hi : List (ST × Int32)) : List (ST × Int32) := (e :: hi).take 12
theorem push_len {e : ST × Int32} {hi : List (ST × Int32)} (h : hi.length ≤ 12) : (push e hi).length = if hi.length + 1 < 12 then hi.length + 1 else 12 := by
  unfold push
  rw [List.length_take, List.length_cons]
  split <;> omega
theorem push_at {e s : ST × Int32} {hi : List (ST × Int32)} {t : Nat} (h : (push e hi)[t]? = some s) : t < 12 ∧ ((t = 0 ∧ s = e) ∨ ∃ k, t = k + 1 ∧ hi[k]? = some s) := by
  unfold push at h
  rw [List.getElem?_take] at h
  by_cases ht : t < 12
  · rw [if_pos ht] at h
    refine ⟨ht, ?_⟩
    cases t with
    | zero => left; rw [List.getElem?_cons_zero] at h; exact ⟨rfl, (Option.some.inj h).symm⟩
    | succ k => right; rw [List.getElem?_cons_succ] at h; exact ⟨k, rfl, h⟩
  · rw [if_neg ht] at h; exact absurd h (by simp)
theorem push_mem {e s : ST × Int32} {hi : List (ST × Int32)} (h : s ∈ push e hi) : s = e ∨ s ∈ hi := by
  have := List.mem_of_mem_take h
  exact List.mem_cons.mp this
theorem nxt_lt {x : Nat} (h : x < 12) : nxt x < 12 := by unfold nxt; split <;> omega
section Rd
variable {w : Wd} {st : ST} {tm : List Int32} {x : Nat} {hi : List (ST × Int32)} {im : Nat → Option (ST × List Int32)} {rf : Nat → Int32} {ss : Int32} {tp : List Int32} {ft : Int32}
theorem cls_keep (h : clsI w st tm x hi im rf ss tp ft) (act : Int32) : ∃ w', Hist_keep 49 1 act (hp w) = some ((), hp w') ∧ clsI w' st tm (nxt x) (push (st, act) hi) im rf ss tp ft ∧ Fr w w' 49 232 := by
  obtain ⟨h0, ⟨h1, h2, h3, h4, h5⟩, h6, ⟨h7, h7'⟩, h8, h9, h10⟩ := h
  obtain ⟨w', a1, a2, a3, a4, a5, a6, a7⟩ := Hist_keep_w (act := act) h0 h7 h1
  have hn := h7.2.1
  have hx : x < 12 := h7.2.2.2.1
  have hbx := hB_rng hx
  have hF : Fr w w' 49 232 := fun i hi => a7 i (by omega) (by omega) (by omega)
  have f : ∀ i, (i < 49 ∨ 232 ≤ i) → w'.1 i = w.1 i ∧ w'.2 i = w.2 i := hF
  have hs := st_same (w := w) (w' := w') (b := 1) (fun i _ h2 => f i (by omega))
  refine ⟨w', a1, ⟨a2, ⟨hs.2 h1, by rw [hs.1]; exact h2, bkOk_fr h3 (f 22 (by omega)).1 (f 23 (by omega)).1 (f 32 (by omega)).1, ?_, by rw [(f 235 (by omega)).2]; exact h5⟩, by rw [(f 16 (by omega)).1]; exact h6, ⟨by rw [push_len hn]; exact a6, ?_⟩, clsM_fr h8 (fun i h => f i (by omega)), ?_, ?_⟩, hF⟩
  · rw [(f 33 (by omega)).2]
    rcases h4 with h | ⟨h, h'⟩
    · exact Or.inl h
    · exact Or.inr ⟨h, bdA_fr h' (f 34 (by omega)).1 (f 35 (by omega)).1⟩
  · intro t s ht
    obtain ⟨t1, t2⟩ := push_at ht
    rcases t2 with ⟨rfl, rfl⟩ | ⟨k, rfl, hk⟩
    · have e : (nxt x + 11 - 0) % 12 = x := by unfold nxt; split <;> omega
      rw [e, a3, h2, a5, gD_set, if_pos ⟨rfl, by rw [l51 h0]; exact hx⟩]
      exact ⟨rfl, a4, rfl⟩
    · have e : (nxt x + 11 - (k + 1)) % 12 = (x + 11 - k) % 12 := by unfold nxt; split <;> omega
      obtain ⟨k1, k2, k3⟩ := h7' k s hk
      have hy : (x + 11 - k) % 12 ≠ x := by omega
      have hy2 : (x + 11 - k) % 12 < 12 := by omega
      rw [e]
      generalize (x + 11 - k) % 12 = y at k1 k2 k3 hy hy2 ⊢
      have hby := hB_rng hy2
      have hd : hB y + 15 ≤ hB x ∨ hB x + 15 ≤ hB y := by unfold hB; omega
      have hs := st_same (w := w) (w' := w') (b := hB y) (fun i h1 h2 => a7 i (by omega) (by omega) (by omega))
      rw [hs.1, a5, gD_set, if_neg (fun hh => hy hh.1.symm)]
      exact ⟨k1, hs.2 k2, k3⟩
  · unfold clsR at h9 ⊢
    rw [(f 243 (by omega)).1, (f 0 (by omega)).2]; exact h9
  · unfold clsT at h10 ⊢
    rw [(f 41 (by omega)).1, (f 40 (by omega)).2]; exact h10
theorem nxt_I : ∀ x : Fin 12, (nI x.1 + 1) - (nI x.1 + 1) / 12 * 12 = nI (nxt x.1) := by decide +kernel
theorem slc_self {r : List Int32} {n : Nat} (h : r.length = n) : slc r 0 n = r := by
  apply ext_gD
  · unfold slc; rw [List.length_map, List.length_range, h]
  · intro k hk
    rw [slc_get (by omega), Nat.zero_add]
theorem ref_keeps {old : ST} (h : refI w st tm x hi im rf ss tp ft) (hx : x < 12) (hn : hi.length ≤ 12) (ho : rowX (w.1 280) old) (act : Int32) : ∃ w', Mod_keeps 274 act (hp w) = some ((), hp w') ∧ refI w' st tm (nxt x) (push (old, act) hi) im rf ss tp ft ∧ Fr w w' 274 292 := by
  obtain ⟨h0, h1, h2, h3, ⟨h4, h5, h6⟩, h7, h8, h9⟩ := h
  have hy := nxt_lt hx
  obtain ⟨y, hye⟩ : ∃ y, y = nxt x := ⟨_, rfl⟩
  rw [← hye] at hy ⊢
  obtain ⟨w1, a1, b1, c1, d1, d1', e1⟩ := pf_eq (x := nI y) h0 p274_14
  have e14 : (nI x + 1) - (nI x + 1) / 12 * 12 = nI y := by rw [hye]; exact nxt_I ⟨x, hx⟩
  obtain ⟨q, i1, W, rfl, hW, hF, hW2, hWk⟩ := iter_I (body := Mod_keeps_b15 274 act) (fun j s => ∃ W, s = (nI j, hp W) ∧ WL W ∧ Fr w1 W 283 284 ∧ W.2 = w1.2 ∧ ∀ k, (W.1 283).getD k 0 = if 1427 * y ≤ k ∧ k < 1427 * y + j then (w1.1 280).getD (k - 1427 * y) 0 else (w1.1 283).getD k 0) (fun r => ∃ W, r = (nI 1427, hp W) ∧ WL W ∧ Fr w1 W 283 284 ∧ W.2 = w1.2 ∧ ∀ k, (W.1 283).getD k 0 = if 1427 * y ≤ k ∧ k < 1427 * y + 1427 then (w1.1 280).getD (k - 1427 * y) 0 else (w1.1 283).getD k 0) 1427 (s0 := (0, hp w1)) (by omega) ⟨w1, rfl, b1, Fr.rfl', rfl, fun k => by rw [if_neg (by omega)]⟩ (by
    rintro j s hj ⟨W, rfl, hW, hF, hW2, hWk⟩
    left
    have hcn : ¬ (1427 : Int32) ≤ nI j := nI_ge (b := 1427) hj (by omega)
    have g14 : W.2 274 14 = nI y := by rw [hW2, d1]
    have q1 : ald 0 (hp W) 280 (nI j) = some ((W.1 280).getD j 0) := ald_w s280 rfl (by rw [l280 hW]; exact hj) (by omega)
    have ei : 1427 * nI y + nI j = nI (1427 * y + j) := by
      rw [show (1427 : Int32) * nI y = nI (1427 * y) from nI_mul 1427 y, nI_add]
    obtain ⟨V, v1, v2, v3, v4, v5⟩ := st_at (i := 1427 * nI y + nI j) (x := (W.1 280).getD j 0) (j := 1427 * y + j) hW s283 ei (show 1427 * y + j < 17124 by omega) (by omega)
    refine ⟨(nI (j + 1), hp V), by simp only [Mod_keeps_b15, if_neg hcn, c274_11, c274_14, c274_6, Option.bind_some, g14, q1, v1, nI_1], V, rfl, v2, hF.tr v5, by rw [v4, hW2], fun k => ?_⟩
    rw [v3, gD_set, hWk k, l283 hW, (hF 280 (by omega)).1]
    by_cases hk : 1427 * y + j = k
    · rw [if_pos ⟨hk, by omega⟩, if_pos (by omega), show k - 1427 * y = j by omega]
    · rw [if_neg (fun hh => hk hh.1)]
      by_cases hk2 : 1427 * y ≤ k ∧ k < 1427 * y + j
      · rw [if_pos hk2, if_pos (by omega)]
      · rw [if_neg hk2, if_neg (by omega)]) (by
    rintro s ⟨W, rfl, hW, hF, hW2, hWk⟩
    exact ⟨(nI 1427, hp W), by simp only [Mod_keeps_b15, if_pos (show (1427 : Int32) ≤ nI 1427 by decide)], W, rfl, hW, hF, hW2, hWk⟩)
  obtain ⟨V, v1, v2, v3, v4, v5⟩ := st_at (i := nI y) (x := act) (j := y) hW s284 rfl (show y < 12 from hy) (by omega)
  have g14 : W.2 274 14 = nI y := by rw [hW2, d1]
  have g13 : V.2 274 13 = nI hi.length := by rw [v4, hW2, d1' 13 (by omega), h4]
  have fin : ∀ U : Wd, WL U → U.1 = V.1 → U.2 274 13 = nI (push (old, act) hi).length → (∀ k, k ≠ 13 → U.2 274 k = V.2 274 k) → Fr V U 274 275 → refI U st tm y (push (old, act) hi) im rf ss tp ft ∧ Fr w U 274 292 := by
    intro U u1 u2 u3 u4 u5
    have f : ∀ i, i ≠ 283 → i ≠ 284 → U.1 i = w.1 i := by
      intro i i1 i2
      rw [u2, (v5 i (by omega)).1, (hF i (by omega)).1, c1]
    have g : ∀ k, k ≠ 13 → k ≠ 14 → U.2 274 k = w.2 274 k := by
      intro k k1 k2
      rw [u4 k k1, v4, hW2, d1' k k2]
    refine ⟨⟨u1, by rw [f 279 (by omega) (by omega)]; exact h1, by rw [f 276 (by omega) (by omega)]; exact h2, by rw [f 277 (by omega) (by omega), f 278 (by omega) (by omega)]; exact h3, ⟨u3, by rw [u4 14 (by omega), v4, hW2, d1], fun t s ht => ?_⟩, ?_, ?_, ?_⟩, fun i hi => ⟨f i (by omega) (by omega), ?_⟩⟩
    · have e283 : U.1 283 = W.1 283 := by rw [u2, (v5 283 (by omega)).1]
      have e284 : U.1 284 = (w.1 284).set y act := by rw [u2, v3, (hF 284 (by omega)).1, c1]
      obtain ⟨t1, t2⟩ := push_at ht
      rcases t2 with ⟨rfl, rfl⟩ | ⟨k, rfl, hk⟩
      · have e : (y + 12 - 0) % 12 = y := by omega
        rw [e, e283, e284, gD_set, if_pos ⟨rfl, by rw [l284 h0]; exact hy⟩]
        refine ⟨?_, rfl⟩
        have es : slc (W.1 283) (1427 * y) 1427 = w.1 280 := by
          rw [← slc_self (r := w.1 280) (n := 1427) (l280 h0)]
          unfold slc
          apply List.map_congr_left
          intro k hk
          have hk' := List.mem_range.mp hk
          rw [hWk, if_pos (by omega), c1, show 1427 * y + k - 1427 * y = 0 + k by omega]
        rw [es]
        exact ho
      · have e : (y + 12 - (k + 1)) % 12 = (x + 12 - k) % 12 := by rw [hye]; unfold nxt; split <;> omega
        have hz : (x + 12 - k) % 12 ≠ y := by rw [hye]; unfold nxt; split <;> omega
        obtain ⟨k1, k2⟩ := h6 k s hk
        have hz2 : (x + 12 - k) % 12 < 12 := by omega
        rw [e]
        generalize (x + 12 - k) % 12 = z at k1 k2 hz hz2 ⊢
        rw [e283, e284, gD_set, if_neg (fun hh => hz hh.1.symm)]
        refine ⟨?_, k2⟩
        have es : slc (W.1 283) (1427 * z) 1427 = slc (w.1 283) (1427 * z) 1427 := by
          unfold slc
          apply List.map_congr_left
          intro k hk
          have hk' := List.mem_range.mp hk
          rw [hWk, if_neg (by omega), c1]
        rw [es]
        exact k1
    · unfold refM at h7 ⊢
      rw [f 286 (by omega) (by omega), f 285 (by omega) (by omega)]
      exact h7
    · unfold refR at h8 ⊢
      rw [f 275 (by omega) (by omega), g 0 (by omega) (by omega)]
      exact h8
    · unfold refT at h9 ⊢
      rw [f 282 (by omega) (by omega), g 9 (by omega) (by omega), g 10 (by omega) (by omega)]
      exact h9
    · rw [(u5 i (by omega)).2, v4, hW2, (e1 i (by omega)).2]
  have pl := push_len (e := (old, act)) hn
  have start : Mod_keeps 274 act (hp w) = Mod_keeps_j49 274 act (nI 1427) (hp W) := by
    unfold Mod_keeps
    rw [c274_14, Option.bind_some, h5, e14, a1, Option.bind_some, i1, Option.bind_some]
  rw [start]
  by_cases h12 : (12 : Int32) ≤ nI hi.length
  · have hlen : hi.length = 12 := by
      rw [ti_le, show (12 : Int32).toInt = 12 from rfl, nI_toInt (by omega)] at h12
      omega
    obtain ⟨q1, q2⟩ := fin V v2 rfl (by rw [g13, pl, if_neg (by omega), hlen]) (fun _ _ => rfl) Fr.rfl'
    refine ⟨V, ?_, q1, q2⟩
    unfold Mod_keeps_j49
    rw [c274_12, Option.bind_some, c274_14, Option.bind_some, g14, v1, Option.bind_some, c274_13, Option.bind_some, g13, if_pos h12]
    unfold Mod_keeps_j78
    rfl
  · have hlen : hi.length + 1 ≤ 12 := by
      rw [ti_le, show (12 : Int32).toInt = 12 from rfl, nI_toInt (by omega)] at h12
      omega
    obtain ⟨U, u1, u2, u3, u4, u4', u5⟩ := pf_eq (x := nI hi.length + 1) v2 p274_13
    obtain ⟨q1, q2⟩ := fin U u2 u3 (by rw [u4, pl, nI_1]; split; rfl; exact congrArg nI (by omega)) (fun k hk => u4' k hk) u5
    refine ⟨U, ?_, q1, q2⟩
    unfold Mod_keeps_j49
    rw [c274_12, Option.bind_some, c274_14, Option.bind_some, g14, v1, Option.bind_some, c274_13, Option.bind_some, g13, if_neg h12, Option.bind_some, u1, Option.bind_some]
    unfold Mod_keeps_j78
    rfl
end Rd
