/-! the law's own reads of its script -/
def EX (E : JE) (b L : Nat) (xs : Nat → Int32) : Prop := match E with
  | (_, _, _, _, s, _, _, _, _, _, G, _, _, _, _) => va_X b L xs s s.heap ∧ b < s.heap.size ∧ ¬ gA G b ∧ gF G 11 = b
def sld (L : Nat) (xs : Nat → Int32) (i : Int32) : Option Int32 := if ¬ i < 0 ∧ i.toNatClampNeg < L then some (xs i.toNatClampNeg) else none
section RulesL
variable {E : JE} {l : Launch} {G : GX} {k : Cd} {mc ms : Nat} {r : Option Value} {h' : AHeap} {β : Type} {M : Option β} {Z : β → Prop} {pc : Nat} {ls : List (Option Value)} {st : List Value} {h : AHeap} {kc ks : Nat}
theorem J_sld {b L : Nat} {xs : Nat → Int32} (hX : EX E b L xs) (ok : JOK E l G k mc ms r h') {i : Int32} {f : Int32 → Option β} (hd : decode k.2.1 pc = .ok (.iaload, 1)) {pc' : Nat} (he : pc + 1 = pc') (kk : ∀ x, J E k (f x) Z pc' ls (.int x :: st) h kc ks) : J E k ((sld L xs i).bind f) Z pc ls (.int i :: .ref (FB + 11) :: st) h kc ks := by
  subst he
  obtain ⟨p, l0, e, R, s, m, args, below, meth, c, G0, r0, h0, mc0, ms0⟩ := E
  obtain ⟨⟨rfl, rfl, rfl, rfl, rfl, rfl⟩, hR, hx, hb, hml, hr, hown, hts, hlk, hnm, hSF, hge⟩ := ok
  obtain ⟨hX, hbl, hbA, hF⟩ := hX
  intro z hz hZ H locs la hsz hRH hS hl
  obtain ⟨x, hx1, hz⟩ := Option.bind_eq_some_iff.mp hz
  unfold sld at hx1
  split at hx1
  · rename_i hc
    cases hx1
    have hk := kk _ z hz hZ H locs la hsz hRH hS hl
    simp only [List.map_cons, vc_ref, gAd_FB, vc_int, hF] at hk ⊢
    exact va_sld hx hb hX hbl hbA hS (vp_in_of2 hc.1 hc.2) hd hk
  · cases hx1
theorem J_slen {b L : Nat} {xs : Nat → Int32} (hX : EX E b L xs) (ok : JOK E l G k mc ms r h') (hd : decode k.2.1 pc = .ok (.arraylength, 1)) {pc' : Nat} (he : pc + 1 = pc') (kk : J E k M Z pc' ls (.int (Int32.ofNat L) :: st) h kc ks) : J E k M Z pc ls (.ref (FB + 11) :: st) h kc ks := by
  subst he
  obtain ⟨p, l0, e, R, s, m, args, below, meth, c, G0, r0, h0, mc0, ms0⟩ := E
  obtain ⟨⟨rfl, rfl, rfl, rfl, rfl, rfl⟩, hR, hx, hb, hml, hr, hown, hts, hlk, hnm, hSF, hge⟩ := ok
  obtain ⟨hX, hbl, hbA, hF⟩ := hX
  intro z hz hZ H locs la hsz hRH hS hl
  have hk := kk z hz hZ H locs la hsz hRH hS hl
  simp only [List.map_cons, vc_ref, gAd_FB, vc_int, hF] at hk ⊢
  exact va_slen hx hb hX hbl hbA hS hd hk
theorem J_lcmp (ok : JOK E l G k mc ms r h') {x y : Int64} (hd : decode k.2.1 pc = .ok (.lcmp, 1)) {pc' : Nat} (he : pc + 1 = pc') (kk : J E k M Z pc' ls (.int (lg_cmp x y) :: st) h kc ks) : J E k M Z pc ls (.long y :: .long x :: st) h kc ks := by
  subst he
  obtain ⟨p, l0, e, R, s, m, args, below, meth, c, G0, r0, h0, mc0, ms0⟩ := E
  obtain ⟨⟨rfl, rfl, rfl, rfl, rfl, rfl⟩, hR, hx, hb, hml, hr, hown, hts, hlk, hnm, hSF, hge⟩ := ok
  intro z hz hZ H locs la hsz hRH hS hl
  exact W.lcmp hx hb hd (kk z hz hZ H locs la hsz hRH hS hl)
end RulesL
