theorem nI_m1 {n : Nat} (h : n < 2 ^ 31) : ¬ nI n = -1 := by
  intro h'
  have := congrArg Int32.toInt h'
  rw [nI_toInt h, ti_m1] at this
  omega
theorem dec_none {w W : Wd} {a sa ta : Nat} (hd : decR w W a sa ta false) : rndP (pdW w 2) (cutsW w a) (srW w sa) (w.1 ta) = none := by
  obtain ⟨_, _, _, _, _, h | ⟨n, hn, hlo, hpl, hfl, h⟩⟩ := hd
  · exact absurd h.2.2.2 (by decide)
  · obtain ⟨h1, h2, h3, h4, h5, h6, h7, h8⟩ := h
    rcases h8 with ⟨_, h⟩ | ⟨h9, _, h10⟩
    · exact absurd h (by decide)
    · unfold rndP
      rw [hlo, if_neg (nI_m1 (by omega))]
      unfold rndM
      rw [sr_get (by omega), sr_get (by omega), ← h7, if_pos h9, news_len, stay_len, if_pos (by simpa using h10.symm)]
/-- what a round leaves -/
def rndW (w w' : Wd) (a m sa ta : Nat) (came : Int32) : Prop := rndP (pdW w 2) (cutsW w a) (srW w sa) (w.1 ta) = some (came, cutsW w' a, srW w' sa) ∧ WL w' ∧ cSz w' a m ∧ w'.2 a 0 = nI m ∧ bkOk w' (pdW w 2) ∧ (w'.2 33 0 = 1 ∨ (w'.2 33 0 = 0 ∧ bdA w' (pdW w 2) (cutsW w' a))) ∧ (∀ i, (i < 17 ∨ 40 ≤ i) → (i < a ∨ a + 6 ≤ i) → i ≠ sa → w'.1 i = w.1 i ∧ w'.2 i = w.2 i)
theorem rnd_fin {w X : Wd} {a m sa ta n : Nat} {keep : Int32} (ha : isCt a m) (ha9 : 9 ≤ a) (hda : a + 6 ≤ 17 ∨ 40 ≤ a) (hg : wfP (pdW w 2)) (hsa9 : 9 ≤ sa) (hds : sa < 17 ∨ 40 ≤ sa) (hlo : (loP (pdW w 2) (cutsW w a) 256).1 = nI n) (hn : n < 256) (hju : judP (lowP (w.2 sa 1) (floorP (pdW w 2) (cutsW w a) (nI n))) (uppP (w.2 sa 2) (totalP (pdW w 2) (nI n))) ((w.1 ta).getD 2 0) = 0) (hroom : ¬ (w.1 ta).getD 3 0 < nI ((leftP (risP (w.2 sa 1) (floorP (pdW w 2) (cutsW w a) (nI n))) ((w.1 ta).getD 1 0) (agedP (pdW w 2) (cutsW w a) (nI n))).length + (newsP (pdW w 2) (cutsW w a) (nI n) ((w.1 ta).getD 0 0)).length)) (hrm : ((w.1 ta).getD 3 0).toInt ≤ m) (hX : WL X) (cX : cutsW X a = leftP (risP (w.2 sa 1) (floorP (pdW w 2) (cutsW w a) (nI n))) ((w.1 ta).getD 1 0) (agedP (pdW w 2) (cutsW w a) (nI n))) (zX : cSz X a m) (mX : X.2 a 0 = nI m) (kX : bkOk X (pdW w 2)) (sX : X.2 33 0 = 1 ∨ (X.2 33 0 = 0 ∧ bdA X (pdW w 2) (cutsW X a))) (h6 : X.2 17 6 = nI n) (h38 : ∀ c, c < pNc (pdW w 2) → (X.1 38).getD c 0 = b2i (pkB (keyZ (pdW w 2) (cutsW w a) (nI n)) (pNc (pdW w 2)) ((w.1 ta).getD 0 0) c)) (FX : ∀ i, (i < 17 ∨ 40 ≤ i) → (i < a ∨ a + 6 ≤ i) → i ≠ sa → X.1 i = w.1 i ∧ X.2 i = w.2 i) (hsa : sa < a ∨ a + 6 ≤ sa) (srX : srW X sa = [0, lowP (w.2 sa 1) (floorP (pdW w 2) (cutsW w a) (nI n)), uppP (w.2 sa 2) (totalP (pdW w 2) (nI n)), besP (w.2 sa 2) (totalP (pdW w 2) (nI n)) (w.2 sa 3) (nI n), nI n, w.2 sa 5 + 1, w.2 sa 6 + (nI (cutsW w a).length - nI (cutsW X a).length)]) : ∃ w' came, Eng_apply_j144 17 2 a sa keep (hp X) = some (came, hp w') ∧ rndW w w' a m sa ta came := by
  have hm := ha.2.2.2
  have eg : pdW X 2 = pdW w 2 := by
    unfold pdW
    rw [(FX 2 (by omega) (by omega) (by omega)).2, (FX (2 + 1) (by omega) (by omega) (by omega)).1, (FX (2 + 2) (by omega) (by omega) (by omega)).1, (FX (2 + 3) (by omega) (by omega) (by omega)).1, (FX (2 + 4) (by omega) (by omega) (by omega)).1, (FX (2 + 5) (by omega) (by omega) (by omega)).1, (FX (2 + 6) (by omega) (by omega) (by omega)).1]
  have hlen : cN X a + cntB (pkB (keyZ (pdW w 2) (cutsW w a) (nI n)) (pNc (pdW w 2)) ((w.1 ta).getD 0 0)) (pNc (pdW w 2)) ≤ m := by
    rw [← cutsW_len, cX, ← news_len]
    have h1 := zX.2
    rw [← cutsW_len, cX] at h1
    have h2 : (newsP (pdW w 2) (cutsW w a) (nI n) ((w.1 ta).getD 0 0)).length ≤ 4 := by
      rw [news_len]
      have := cntB_le (P := pkB (keyZ (pdW w 2) (cutsW w a) (nI n)) (pNc (pdW w 2)) ((w.1 ta).getD 0 0)) (pNc (pdW w 2))
      have := hg.1.2.2.2
      omega
    rw [ti_lt, nI_toInt (by omega)] at hroom
    omega
  obtain ⟨V, v1, v2, v3, v4, v5, v6, v7, v8⟩ := app_loop (sa := sa) (keep := keep) eg ha ha9 hda hX hg zX mX kX h6 h38 sX hlen
  refine ⟨V, nI (cntB (pkB (keyZ (pdW w 2) (cutsW w a) (nI n)) (pNc (pdW w 2)) ((w.1 ta).getD 0 0)) (pNc (pdW w 2))), by simp only [Eng_apply_j144, v1, Option.bind_some, Eng_apply_j258], ?_, v2, v3, v4, v6, v7, fun i h1 h2 h3 => ?_⟩
  · unfold rndP
    rw [hlo, if_neg (nI_m1 (by omega))]
    unfold rndM
    rw [sr_get (by omega), sr_get (by omega), sr_get (by omega), sr_get (by omega), sr_get (by omega), hju, if_pos rfl, if_neg hroom, news_len]
    have es : srW V sa = srW X sa := by
      unfold srW
      rw [(v8 sa (by omega) (by omega)).2]
    rw [es, srX, v5, cX]
    rfl
  · have q1 := v8 i (by omega) (by omega)
    have q2 := FX i h1 h2 h3
    exact ⟨by rw [q1.1, q2.1], by rw [q1.2, q2.2]⟩
