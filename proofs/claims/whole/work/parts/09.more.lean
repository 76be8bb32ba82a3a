theorem my_ldcwF {p : Program} {l : Launch} {e : Env} {R : Room} {s : State} {m : MethodId} {args : Array Value} {below : List Frame} {meth : Method} {c : Code} {T : State} {locs : List Loc} {cells slots : Nat} (X : Stand p l e R s m args below meth c T locs cells slots) (hexec : p.tables.exec = Jvm.exec) {own : String} {index : Nat} {v : UInt32} (hown : s.vm.findClass own = some m.cls) (hconst : (Cond.constantFloat own index v).before args s = true) {g : JFrame} (hg : g.method = m) (hdg : decode c.code g.pc = .ok (.ldc_w index, 3)) : ∀ target, Steps p.tables e below (T.setTop { g with pc := g.pc + 3, stack := .float v :: g.stack }) target → Steps p.tables e below (T.setTop g) target := by
  obtain ⟨k, cf, hk, hcf, hcp⟩ := Cond.constantFloat_spec hown hconst
  obtain ⟨k', hk', he⟩ := X.warmed.alike.2.2 _ _ hk
  intro target hrest
  subst hg
  jvm_step X.here [hexec, hdg, ldc_w.wp_float (s := T) (f := g) X.here.top hk' (by rw [he]; exact hcf) hcp]
  exact hrest
/-! branches that are known, a wide constant, a switch's goals in a row, a String's method -/
section Rules5
variable {E : JE} {l : Launch} {G : GX} {k : Cd} {mc ms : Nat} {r : Option Value} {h' : AHeap} {β : Type} {M : Option β} {Z : β → Prop} {pc : Nat} {ls : List (Option Value)} {st : List Value} {h : AHeap} {kc ks : Nat}
theorem J_if_eq_t (ok : JOK E l G k mc ms r h') {x : Int32} {off : Int} {tgt : Nat} (hd : decode k.2.1 pc = .ok (.ifCond .eq off, 3)) (ht : (pc : Int) + off = (tgt : Int)) (hc : x = 0) (kt : J E k M Z tgt ls st h kc ks) : J E k M Z pc ls (.int x :: st) h kc ks := by
  obtain ⟨p, l0, e, R, s, m, args, below, meth, c, G0, r0, h0, mc0, ms0⟩ := E
  obtain ⟨⟨rfl, rfl, rfl, rfl, rfl, rfl⟩, hR, hx, hb, hml, hr, hown, hts, hlk, hnm, hSF, hge⟩ := ok
  intro z hz hZ H locs la hsz hRH hS hl
  exact lv_if_eq (tgt := tgt) hx hb hd ht (fun _ => kt z hz hZ H locs la hsz hRH hS hl) (fun hn => absurd hc (by first | exact hn | exact fun q => q hn))
theorem J_if_eq_f (ok : JOK E l G k mc ms r h') {x : Int32} {off : Int} {tgt : Nat} (hd : decode k.2.1 pc = .ok (.ifCond .eq off, 3)) {pc' : Nat} (he : pc + 3 = pc') (ht : (pc : Int) + off = (tgt : Int)) (hc : ¬ (x = 0)) (kf : J E k M Z pc' ls st h kc ks) : J E k M Z pc ls (.int x :: st) h kc ks := by
  subst he
  obtain ⟨p, l0, e, R, s, m, args, below, meth, c, G0, r0, h0, mc0, ms0⟩ := E
  obtain ⟨⟨rfl, rfl, rfl, rfl, rfl, rfl⟩, hR, hx, hb, hml, hr, hown, hts, hlk, hnm, hSF, hge⟩ := ok
  intro z hz hZ H locs la hsz hRH hS hl
  exact lv_if_eq (tgt := tgt) hx hb hd ht (fun hn => absurd hn hc) (fun _ => kf z hz hZ H locs la hsz hRH hS hl)
theorem J_icmp_eq_t (ok : JOK E l G k mc ms r h') {x y : Int32} {off : Int} {tgt : Nat} (hd : decode k.2.1 pc = .ok (.if_icmp .eq off, 3)) (ht : (pc : Int) + off = (tgt : Int)) (hc : x = y) (kt : J E k M Z tgt ls st h kc ks) : J E k M Z pc ls (.int y :: .int x :: st) h kc ks := by
  obtain ⟨p, l0, e, R, s, m, args, below, meth, c, G0, r0, h0, mc0, ms0⟩ := E
  obtain ⟨⟨rfl, rfl, rfl, rfl, rfl, rfl⟩, hR, hx, hb, hml, hr, hown, hts, hlk, hnm, hSF, hge⟩ := ok
  intro z hz hZ H locs la hsz hRH hS hl
  exact lv_icmp_eq (tgt := tgt) hx hb hd ht (fun _ => kt z hz hZ H locs la hsz hRH hS hl) (fun hn => absurd hc (by first | exact hn | exact fun q => q hn))
theorem J_icmp_eq_f (ok : JOK E l G k mc ms r h') {x y : Int32} {off : Int} {tgt : Nat} (hd : decode k.2.1 pc = .ok (.if_icmp .eq off, 3)) {pc' : Nat} (he : pc + 3 = pc') (ht : (pc : Int) + off = (tgt : Int)) (hc : ¬ (x = y)) (kf : J E k M Z pc' ls st h kc ks) : J E k M Z pc ls (.int y :: .int x :: st) h kc ks := by
  subst he
  obtain ⟨p, l0, e, R, s, m, args, below, meth, c, G0, r0, h0, mc0, ms0⟩ := E
  obtain ⟨⟨rfl, rfl, rfl, rfl, rfl, rfl⟩, hR, hx, hb, hml, hr, hown, hts, hlk, hnm, hSF, hge⟩ := ok
  intro z hz hZ H locs la hsz hRH hS hl
  exact lv_icmp_eq (tgt := tgt) hx hb hd ht (fun hn => absurd hn hc) (fun _ => kf z hz hZ H locs la hsz hRH hS hl)
theorem J_if_ne_t (ok : JOK E l G k mc ms r h') {x : Int32} {off : Int} {tgt : Nat} (hd : decode k.2.1 pc = .ok (.ifCond .ne off, 3)) (ht : (pc : Int) + off = (tgt : Int)) (hc : ¬ x = 0) (kt : J E k M Z tgt ls st h kc ks) : J E k M Z pc ls (.int x :: st) h kc ks := by
  obtain ⟨p, l0, e, R, s, m, args, below, meth, c, G0, r0, h0, mc0, ms0⟩ := E
  obtain ⟨⟨rfl, rfl, rfl, rfl, rfl, rfl⟩, hR, hx, hb, hml, hr, hown, hts, hlk, hnm, hSF, hge⟩ := ok
  intro z hz hZ H locs la hsz hRH hS hl
  exact lv_if_ne (tgt := tgt) hx hb hd ht (fun _ => kt z hz hZ H locs la hsz hRH hS hl) (fun hn => absurd hc (by first | exact hn | exact fun q => q hn))
theorem J_if_ne_f (ok : JOK E l G k mc ms r h') {x : Int32} {off : Int} {tgt : Nat} (hd : decode k.2.1 pc = .ok (.ifCond .ne off, 3)) {pc' : Nat} (he : pc + 3 = pc') (ht : (pc : Int) + off = (tgt : Int)) (hc : ¬ (¬ x = 0)) (kf : J E k M Z pc' ls st h kc ks) : J E k M Z pc ls (.int x :: st) h kc ks := by
  subst he
  obtain ⟨p, l0, e, R, s, m, args, below, meth, c, G0, r0, h0, mc0, ms0⟩ := E
  obtain ⟨⟨rfl, rfl, rfl, rfl, rfl, rfl⟩, hR, hx, hb, hml, hr, hown, hts, hlk, hnm, hSF, hge⟩ := ok
  intro z hz hZ H locs la hsz hRH hS hl
  exact lv_if_ne (tgt := tgt) hx hb hd ht (fun hn => absurd hn hc) (fun _ => kf z hz hZ H locs la hsz hRH hS hl)
theorem J_icmp_ne_t (ok : JOK E l G k mc ms r h') {x y : Int32} {off : Int} {tgt : Nat} (hd : decode k.2.1 pc = .ok (.if_icmp .ne off, 3)) (ht : (pc : Int) + off = (tgt : Int)) (hc : ¬ x = y) (kt : J E k M Z tgt ls st h kc ks) : J E k M Z pc ls (.int y :: .int x :: st) h kc ks := by
  obtain ⟨p, l0, e, R, s, m, args, below, meth, c, G0, r0, h0, mc0, ms0⟩ := E
  obtain ⟨⟨rfl, rfl, rfl, rfl, rfl, rfl⟩, hR, hx, hb, hml, hr, hown, hts, hlk, hnm, hSF, hge⟩ := ok
  intro z hz hZ H locs la hsz hRH hS hl
  exact lv_icmp_ne (tgt := tgt) hx hb hd ht (fun _ => kt z hz hZ H locs la hsz hRH hS hl) (fun hn => absurd hc (by first | exact hn | exact fun q => q hn))
theorem J_icmp_ne_f (ok : JOK E l G k mc ms r h') {x y : Int32} {off : Int} {tgt : Nat} (hd : decode k.2.1 pc = .ok (.if_icmp .ne off, 3)) {pc' : Nat} (he : pc + 3 = pc') (ht : (pc : Int) + off = (tgt : Int)) (hc : ¬ (¬ x = y)) (kf : J E k M Z pc' ls st h kc ks) : J E k M Z pc ls (.int y :: .int x :: st) h kc ks := by
  subst he
  obtain ⟨p, l0, e, R, s, m, args, below, meth, c, G0, r0, h0, mc0, ms0⟩ := E
  obtain ⟨⟨rfl, rfl, rfl, rfl, rfl, rfl⟩, hR, hx, hb, hml, hr, hown, hts, hlk, hnm, hSF, hge⟩ := ok
  intro z hz hZ H locs la hsz hRH hS hl
  exact lv_icmp_ne (tgt := tgt) hx hb hd ht (fun hn => absurd hn hc) (fun _ => kf z hz hZ H locs la hsz hRH hS hl)
theorem J_if_lt_t (ok : JOK E l G k mc ms r h') {x : Int32} {off : Int} {tgt : Nat} (hd : decode k.2.1 pc = .ok (.ifCond .lt off, 3)) (ht : (pc : Int) + off = (tgt : Int)) (hc : x < 0) (kt : J E k M Z tgt ls st h kc ks) : J E k M Z pc ls (.int x :: st) h kc ks := by
  obtain ⟨p, l0, e, R, s, m, args, below, meth, c, G0, r0, h0, mc0, ms0⟩ := E
  obtain ⟨⟨rfl, rfl, rfl, rfl, rfl, rfl⟩, hR, hx, hb, hml, hr, hown, hts, hlk, hnm, hSF, hge⟩ := ok
  intro z hz hZ H locs la hsz hRH hS hl
  exact lv_if_lt (tgt := tgt) hx hb hd ht (fun _ => kt z hz hZ H locs la hsz hRH hS hl) (fun hn => absurd hc (by first | exact hn | exact fun q => q hn))
theorem J_if_lt_f (ok : JOK E l G k mc ms r h') {x : Int32} {off : Int} {tgt : Nat} (hd : decode k.2.1 pc = .ok (.ifCond .lt off, 3)) {pc' : Nat} (he : pc + 3 = pc') (ht : (pc : Int) + off = (tgt : Int)) (hc : ¬ (x < 0)) (kf : J E k M Z pc' ls st h kc ks) : J E k M Z pc ls (.int x :: st) h kc ks := by
  subst he
  obtain ⟨p, l0, e, R, s, m, args, below, meth, c, G0, r0, h0, mc0, ms0⟩ := E
  obtain ⟨⟨rfl, rfl, rfl, rfl, rfl, rfl⟩, hR, hx, hb, hml, hr, hown, hts, hlk, hnm, hSF, hge⟩ := ok
  intro z hz hZ H locs la hsz hRH hS hl
  exact lv_if_lt (tgt := tgt) hx hb hd ht (fun hn => absurd hn hc) (fun _ => kf z hz hZ H locs la hsz hRH hS hl)
theorem J_icmp_lt_t (ok : JOK E l G k mc ms r h') {x y : Int32} {off : Int} {tgt : Nat} (hd : decode k.2.1 pc = .ok (.if_icmp .lt off, 3)) (ht : (pc : Int) + off = (tgt : Int)) (hc : x < y) (kt : J E k M Z tgt ls st h kc ks) : J E k M Z pc ls (.int y :: .int x :: st) h kc ks := by
  obtain ⟨p, l0, e, R, s, m, args, below, meth, c, G0, r0, h0, mc0, ms0⟩ := E
  obtain ⟨⟨rfl, rfl, rfl, rfl, rfl, rfl⟩, hR, hx, hb, hml, hr, hown, hts, hlk, hnm, hSF, hge⟩ := ok
  intro z hz hZ H locs la hsz hRH hS hl
  exact lv_icmp_lt (tgt := tgt) hx hb hd ht (fun _ => kt z hz hZ H locs la hsz hRH hS hl) (fun hn => absurd hc (by first | exact hn | exact fun q => q hn))
theorem J_icmp_lt_f (ok : JOK E l G k mc ms r h') {x y : Int32} {off : Int} {tgt : Nat} (hd : decode k.2.1 pc = .ok (.if_icmp .lt off, 3)) {pc' : Nat} (he : pc + 3 = pc') (ht : (pc : Int) + off = (tgt : Int)) (hc : ¬ (x < y)) (kf : J E k M Z pc' ls st h kc ks) : J E k M Z pc ls (.int y :: .int x :: st) h kc ks := by
  subst he
  obtain ⟨p, l0, e, R, s, m, args, below, meth, c, G0, r0, h0, mc0, ms0⟩ := E
  obtain ⟨⟨rfl, rfl, rfl, rfl, rfl, rfl⟩, hR, hx, hb, hml, hr, hown, hts, hlk, hnm, hSF, hge⟩ := ok
  intro z hz hZ H locs la hsz hRH hS hl
  exact lv_icmp_lt (tgt := tgt) hx hb hd ht (fun hn => absurd hn hc) (fun _ => kf z hz hZ H locs la hsz hRH hS hl)
theorem J_if_ge_t (ok : JOK E l G k mc ms r h') {x : Int32} {off : Int} {tgt : Nat} (hd : decode k.2.1 pc = .ok (.ifCond .ge off, 3)) (ht : (pc : Int) + off = (tgt : Int)) (hc : 0 ≤ x) (kt : J E k M Z tgt ls st h kc ks) : J E k M Z pc ls (.int x :: st) h kc ks := by
  obtain ⟨p, l0, e, R, s, m, args, below, meth, c, G0, r0, h0, mc0, ms0⟩ := E
  obtain ⟨⟨rfl, rfl, rfl, rfl, rfl, rfl⟩, hR, hx, hb, hml, hr, hown, hts, hlk, hnm, hSF, hge⟩ := ok
  intro z hz hZ H locs la hsz hRH hS hl
  exact lv_if_ge (tgt := tgt) hx hb hd ht (fun _ => kt z hz hZ H locs la hsz hRH hS hl) (fun hn => absurd hc (by first | exact hn | exact fun q => q hn))
theorem J_if_ge_f (ok : JOK E l G k mc ms r h') {x : Int32} {off : Int} {tgt : Nat} (hd : decode k.2.1 pc = .ok (.ifCond .ge off, 3)) {pc' : Nat} (he : pc + 3 = pc') (ht : (pc : Int) + off = (tgt : Int)) (hc : ¬ (0 ≤ x)) (kf : J E k M Z pc' ls st h kc ks) : J E k M Z pc ls (.int x :: st) h kc ks := by
  subst he
  obtain ⟨p, l0, e, R, s, m, args, below, meth, c, G0, r0, h0, mc0, ms0⟩ := E
  obtain ⟨⟨rfl, rfl, rfl, rfl, rfl, rfl⟩, hR, hx, hb, hml, hr, hown, hts, hlk, hnm, hSF, hge⟩ := ok
  intro z hz hZ H locs la hsz hRH hS hl
  exact lv_if_ge (tgt := tgt) hx hb hd ht (fun hn => absurd hn hc) (fun _ => kf z hz hZ H locs la hsz hRH hS hl)
theorem J_icmp_ge_t (ok : JOK E l G k mc ms r h') {x y : Int32} {off : Int} {tgt : Nat} (hd : decode k.2.1 pc = .ok (.if_icmp .ge off, 3)) (ht : (pc : Int) + off = (tgt : Int)) (hc : y ≤ x) (kt : J E k M Z tgt ls st h kc ks) : J E k M Z pc ls (.int y :: .int x :: st) h kc ks := by
  obtain ⟨p, l0, e, R, s, m, args, below, meth, c, G0, r0, h0, mc0, ms0⟩ := E
  obtain ⟨⟨rfl, rfl, rfl, rfl, rfl, rfl⟩, hR, hx, hb, hml, hr, hown, hts, hlk, hnm, hSF, hge⟩ := ok
  intro z hz hZ H locs la hsz hRH hS hl
  exact lv_icmp_ge (tgt := tgt) hx hb hd ht (fun _ => kt z hz hZ H locs la hsz hRH hS hl) (fun hn => absurd hc (by first | exact hn | exact fun q => q hn))
theorem J_icmp_ge_f (ok : JOK E l G k mc ms r h') {x y : Int32} {off : Int} {tgt : Nat} (hd : decode k.2.1 pc = .ok (.if_icmp .ge off, 3)) {pc' : Nat} (he : pc + 3 = pc') (ht : (pc : Int) + off = (tgt : Int)) (hc : ¬ (y ≤ x)) (kf : J E k M Z pc' ls st h kc ks) : J E k M Z pc ls (.int y :: .int x :: st) h kc ks := by
  subst he
  obtain ⟨p, l0, e, R, s, m, args, below, meth, c, G0, r0, h0, mc0, ms0⟩ := E
  obtain ⟨⟨rfl, rfl, rfl, rfl, rfl, rfl⟩, hR, hx, hb, hml, hr, hown, hts, hlk, hnm, hSF, hge⟩ := ok
  intro z hz hZ H locs la hsz hRH hS hl
  exact lv_icmp_ge (tgt := tgt) hx hb hd ht (fun hn => absurd hn hc) (fun _ => kf z hz hZ H locs la hsz hRH hS hl)
theorem J_if_gt_t (ok : JOK E l G k mc ms r h') {x : Int32} {off : Int} {tgt : Nat} (hd : decode k.2.1 pc = .ok (.ifCond .gt off, 3)) (ht : (pc : Int) + off = (tgt : Int)) (hc : 0 < x) (kt : J E k M Z tgt ls st h kc ks) : J E k M Z pc ls (.int x :: st) h kc ks := by
  obtain ⟨p, l0, e, R, s, m, args, below, meth, c, G0, r0, h0, mc0, ms0⟩ := E
  obtain ⟨⟨rfl, rfl, rfl, rfl, rfl, rfl⟩, hR, hx, hb, hml, hr, hown, hts, hlk, hnm, hSF, hge⟩ := ok
  intro z hz hZ H locs la hsz hRH hS hl
  exact lv_if_gt (tgt := tgt) hx hb hd ht (fun _ => kt z hz hZ H locs la hsz hRH hS hl) (fun hn => absurd hc (by first | exact hn | exact fun q => q hn))
theorem J_if_gt_f (ok : JOK E l G k mc ms r h') {x : Int32} {off : Int} {tgt : Nat} (hd : decode k.2.1 pc = .ok (.ifCond .gt off, 3)) {pc' : Nat} (he : pc + 3 = pc') (ht : (pc : Int) + off = (tgt : Int)) (hc : ¬ (0 < x)) (kf : J E k M Z pc' ls st h kc ks) : J E k M Z pc ls (.int x :: st) h kc ks := by
  subst he
  obtain ⟨p, l0, e, R, s, m, args, below, meth, c, G0, r0, h0, mc0, ms0⟩ := E
  obtain ⟨⟨rfl, rfl, rfl, rfl, rfl, rfl⟩, hR, hx, hb, hml, hr, hown, hts, hlk, hnm, hSF, hge⟩ := ok
  intro z hz hZ H locs la hsz hRH hS hl
  exact lv_if_gt (tgt := tgt) hx hb hd ht (fun hn => absurd hn hc) (fun _ => kf z hz hZ H locs la hsz hRH hS hl)
theorem J_icmp_gt_t (ok : JOK E l G k mc ms r h') {x y : Int32} {off : Int} {tgt : Nat} (hd : decode k.2.1 pc = .ok (.if_icmp .gt off, 3)) (ht : (pc : Int) + off = (tgt : Int)) (hc : y < x) (kt : J E k M Z tgt ls st h kc ks) : J E k M Z pc ls (.int y :: .int x :: st) h kc ks := by
  obtain ⟨p, l0, e, R, s, m, args, below, meth, c, G0, r0, h0, mc0, ms0⟩ := E
  obtain ⟨⟨rfl, rfl, rfl, rfl, rfl, rfl⟩, hR, hx, hb, hml, hr, hown, hts, hlk, hnm, hSF, hge⟩ := ok
  intro z hz hZ H locs la hsz hRH hS hl
  exact lv_icmp_gt (tgt := tgt) hx hb hd ht (fun _ => kt z hz hZ H locs la hsz hRH hS hl) (fun hn => absurd hc (by first | exact hn | exact fun q => q hn))
theorem J_icmp_gt_f (ok : JOK E l G k mc ms r h') {x y : Int32} {off : Int} {tgt : Nat} (hd : decode k.2.1 pc = .ok (.if_icmp .gt off, 3)) {pc' : Nat} (he : pc + 3 = pc') (ht : (pc : Int) + off = (tgt : Int)) (hc : ¬ (y < x)) (kf : J E k M Z pc' ls st h kc ks) : J E k M Z pc ls (.int y :: .int x :: st) h kc ks := by
  subst he
  obtain ⟨p, l0, e, R, s, m, args, below, meth, c, G0, r0, h0, mc0, ms0⟩ := E
  obtain ⟨⟨rfl, rfl, rfl, rfl, rfl, rfl⟩, hR, hx, hb, hml, hr, hown, hts, hlk, hnm, hSF, hge⟩ := ok
  intro z hz hZ H locs la hsz hRH hS hl
  exact lv_icmp_gt (tgt := tgt) hx hb hd ht (fun hn => absurd hn hc) (fun _ => kf z hz hZ H locs la hsz hRH hS hl)
theorem J_if_le_t (ok : JOK E l G k mc ms r h') {x : Int32} {off : Int} {tgt : Nat} (hd : decode k.2.1 pc = .ok (.ifCond .le off, 3)) (ht : (pc : Int) + off = (tgt : Int)) (hc : x ≤ 0) (kt : J E k M Z tgt ls st h kc ks) : J E k M Z pc ls (.int x :: st) h kc ks := by
  obtain ⟨p, l0, e, R, s, m, args, below, meth, c, G0, r0, h0, mc0, ms0⟩ := E
  obtain ⟨⟨rfl, rfl, rfl, rfl, rfl, rfl⟩, hR, hx, hb, hml, hr, hown, hts, hlk, hnm, hSF, hge⟩ := ok
  intro z hz hZ H locs la hsz hRH hS hl
  exact lv_if_le (tgt := tgt) hx hb hd ht (fun _ => kt z hz hZ H locs la hsz hRH hS hl) (fun hn => absurd hc (by first | exact hn | exact fun q => q hn))
theorem J_if_le_f (ok : JOK E l G k mc ms r h') {x : Int32} {off : Int} {tgt : Nat} (hd : decode k.2.1 pc = .ok (.ifCond .le off, 3)) {pc' : Nat} (he : pc + 3 = pc') (ht : (pc : Int) + off = (tgt : Int)) (hc : ¬ (x ≤ 0)) (kf : J E k M Z pc' ls st h kc ks) : J E k M Z pc ls (.int x :: st) h kc ks := by
  subst he
  obtain ⟨p, l0, e, R, s, m, args, below, meth, c, G0, r0, h0, mc0, ms0⟩ := E
  obtain ⟨⟨rfl, rfl, rfl, rfl, rfl, rfl⟩, hR, hx, hb, hml, hr, hown, hts, hlk, hnm, hSF, hge⟩ := ok
  intro z hz hZ H locs la hsz hRH hS hl
  exact lv_if_le (tgt := tgt) hx hb hd ht (fun hn => absurd hn hc) (fun _ => kf z hz hZ H locs la hsz hRH hS hl)
theorem J_icmp_le_t (ok : JOK E l G k mc ms r h') {x y : Int32} {off : Int} {tgt : Nat} (hd : decode k.2.1 pc = .ok (.if_icmp .le off, 3)) (ht : (pc : Int) + off = (tgt : Int)) (hc : x ≤ y) (kt : J E k M Z tgt ls st h kc ks) : J E k M Z pc ls (.int y :: .int x :: st) h kc ks := by
  obtain ⟨p, l0, e, R, s, m, args, below, meth, c, G0, r0, h0, mc0, ms0⟩ := E
  obtain ⟨⟨rfl, rfl, rfl, rfl, rfl, rfl⟩, hR, hx, hb, hml, hr, hown, hts, hlk, hnm, hSF, hge⟩ := ok
  intro z hz hZ H locs la hsz hRH hS hl
  exact lv_icmp_le (tgt := tgt) hx hb hd ht (fun _ => kt z hz hZ H locs la hsz hRH hS hl) (fun hn => absurd hc (by first | exact hn | exact fun q => q hn))
theorem J_icmp_le_f (ok : JOK E l G k mc ms r h') {x y : Int32} {off : Int} {tgt : Nat} (hd : decode k.2.1 pc = .ok (.if_icmp .le off, 3)) {pc' : Nat} (he : pc + 3 = pc') (ht : (pc : Int) + off = (tgt : Int)) (hc : ¬ (x ≤ y)) (kf : J E k M Z pc' ls st h kc ks) : J E k M Z pc ls (.int y :: .int x :: st) h kc ks := by
  subst he
  obtain ⟨p, l0, e, R, s, m, args, below, meth, c, G0, r0, h0, mc0, ms0⟩ := E
  obtain ⟨⟨rfl, rfl, rfl, rfl, rfl, rfl⟩, hR, hx, hb, hml, hr, hown, hts, hlk, hnm, hSF, hge⟩ := ok
  intro z hz hZ H locs la hsz hRH hS hl
  exact lv_icmp_le (tgt := tgt) hx hb hd ht (fun hn => absurd hn hc) (fun _ => kf z hz hZ H locs la hsz hRH hS hl)
theorem J_ldcw (ok : JOK E l G k mc ms r h') {i : Nat} {v : Int32} (hd : decode k.2.1 pc = .ok (.ldc_w i, 3)) {pc' : Nat} (he : pc + 3 = pc') (hc : Cond.constant k.1.cls i v ∈ gw) (kk : J E k M Z pc' ls (.int v :: st) h kc ks) : J E k M Z pc ls st h kc ks := by
  subst he
  obtain ⟨p, l0, e, R, s, m, args, below, meth, c, G0, r0, h0, mc0, ms0⟩ := E
  obtain ⟨⟨rfl, rfl, rfl, rfl, rfl, rfl⟩, hR, hx, hb, hml, hr, hown, hts, hlk, hnm, hSF, hge⟩ := ok
  intro z hz hZ H locs la hsz hRH hS hl
  exact lv_ldcw hx hb hown (hts _ hc) hd (kk z hz hZ H locs la hsz hRH hS hl)
theorem J_ldcwf (ok : JOK E l G k mc ms r h') {i : Nat} {v : UInt32} (hd : decode k.2.1 pc = .ok (.ldc_w i, 3)) {pc' : Nat} (he : pc + 3 = pc') (hc : Cond.constantFloat k.1.cls i v ∈ gw) (kk : J E k M Z pc' ls (.float v :: st) h kc ks) : J E k M Z pc ls st h kc ks := by
  subst he
  obtain ⟨p, l0, e, R, s, m, args, below, meth, c, G0, r0, h0, mc0, ms0⟩ := E
  obtain ⟨⟨rfl, rfl, rfl, rfl, rfl, rfl⟩, hR, hx, hb, hml, hr, hown, hts, hlk, hnm, hSF, hge⟩ := ok
  intro z hz hZ H locs la hsz hRH hS hl
  intro T hT X
  obtain ⟨t, a1, b1⟩ := kk z hz hZ H locs la hsz hRH hS hl T hT X
  exact ⟨t, my_ldcwF X hx hown (hts _ hc) (g := F0 m pc la (st.map (vc G0))) rfl (by rw [hb]; exact hd) t a1, b1⟩
def allJ (E : JE) (k : Cd) (Z : β → Prop) (ls : List (Option Value)) (st : List Value) (h : AHeap) (kc ks : Nat) : List (Option β) → List Nat → Prop
  | A :: As, t :: ts => J E k A Z t ls st h kc ks ∧ allJ E k Z ls st h kc ks As ts
  | _, _ => True
theorem allJ_at : ∀ (As : List (Option β)) (ts : List Nat), allJ E k Z ls st h kc ks As ts → ∀ (i : Nat) (M : Option β) (t : Nat), As[i]? = some M → ts[i]? = some t → J E k M Z t ls st h kc ks
  | [], _, _, i, M, t, h1, _ => by simp at h1
  | A :: As, [], _, i, M, t, _, h2 => by simp at h2
  | A :: As, t0 :: ts, hA, 0, M, t, h1, h2 => by
    simp at h1 h2
    subst h1; subst h2
    exact hA.1
  | A :: As, t0 :: ts, hA, i + 1, M, t, h1, h2 => allJ_at As ts hA.2 i M t (by simpa using h1) (by simpa using h2)
def chkS (a : Nat) : Option Unit := if FB + 2 ≤ a ∧ a < FB + 6 then some () else none
theorem chkS_spec {a : Nat} {u : Unit} (h : chkS a = some u) : ∃ i, i < 4 ∧ a = FB + (2 + i) := by
  unfold chkS at h
  split at h
  · rename_i hc
    exact ⟨a - (FB + 2), by omega, by omega⟩
  · cases h
theorem J_callSVi (ok : JOK E l G k mc ms r h') {k2 : Cd} {idx : Nat} {b : Nat} {as : List Value} {stk : List Value} {F : Option (Int32 × AHeap)} {f : Int32 → AHeap → Option β} (hd : decode k.2.1 pc = .ok (.invokevirtual idx, 3)) {pc' : Nat} (he : pc + 3 = pc') (hw : Cw k k2 as.length) (hlink : Cond.methodLink k.1.cls idx k2.1 ∈ gw) (hinst : Cond.instanceMethod k2.1 ∈ gw) (hsel : Cond.selects k2.1.cls k2.1 k2.1 ∈ gw) (hcls : k2.1.cls = "java/lang/String") (hfit : kc ≤ mc ∧ ks ≤ ms) (hcat : (st.map fun v => v.category).sum ≤ 8) (hst : stk = as.reverse ++ .ref b :: st) (hC : ∀ x h1, F = some (x, h1) → CT l G k2 0 0 (.ref b :: as) h (some (.int x)) h1) (kk : ∀ (x : Int32) (h1 : AHeap), J E k (f x h1) Z pc' ls (.int x :: st) h1 kc ks) : J E k ((chkS b).bind fun _ => bnd2 F f) Z pc ls stk h kc ks := by
  subst he
  obtain ⟨p, l0, e, R, s, m, args, below, meth, c, G0, r0, h0, mc0, ms0⟩ := E
  obtain ⟨⟨rfl, rfl, rfl, rfl, rfl, rfl⟩, hR, hx, hb, hml, hr, hown, hts, hlk, hnm, hSF, hge⟩ := ok
  intro z hz hZ H locs la hsz hRH hS hl
  obtain ⟨u0, hu0, hz2⟩ := Option.bind_eq_some_iff.mp hz
  obtain ⟨i0, hi0, rfl⟩ := chkS_spec hu0
  obtain ⟨⟨x, h1⟩, hF, hz3⟩ := Option.bind_eq_some_iff.mp hz2
  have hM := hC x h1 hF
  refine W.sz (fun hsz2 => ?_)
  have hge2 := RH.ge (Nat.le_trans hge hS.1) hRH
  have hHz : H.size = gB G0 + h.length := by omega
  have hrec : ∃ cellB : Cell, H[gAd G0 (FB + (2 + i0))]? = some cellB ∧ cellB.vm.isStatics = false ∧ s.vm.findClass k2.1.cls = some cellB.cls := by
    rw [gAd_FB, hcls]
    exact vk_recv (i := i0) (adK := fun i => gF G0 (2 + i)) hSF.2.2.2.2.2.1 hi0 hS
  refine va_calli (va_runV (As := as.map (vc G0)) (rest := st.map (vc G0)) (C := k2.1.cls) ⟨hx, hb, hml, hown, hts⟩ hM ⟨callB_of as.length hts (cdW_good hw.1) rfl rfl rfl (hts _ hw.2.1) (hts _ hlink) hw.2.2.1 (by rw [hR]; exact hw.2.2.2), hts _ hinst, hts _ hsel⟩ ⟨PC_blind, hrec, fun U hU hW => PC_at (av := .ref (FB + (2 + i0)) :: as) hSF hS hRH hHz hU hW⟩ rfl (by simp) (hl.1) (by subst hst; simp [List.map_reverse, vc]) (lv_room (by rw [cat_sum hSF.1]; exact hcat)) hd (by rw [hR]; exact hfit)) hS (fun q _ h => h) (fun q h => h) (fun r9 u t H1 locs1 ht hvm hw9 hB hz1 hk1 hS1 => ?_)
  cases hw9
  rw [ht] at hB
  refine W.sz (fun hsz3 => ?_)
  exact kk _ h1 z hz3 hZ H1 locs1 la (by have := hB.2.2; omega) hB.1 hS1 hl
end Rules5
