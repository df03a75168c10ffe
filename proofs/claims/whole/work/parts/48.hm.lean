section AM7
variable {k : Nat} {s0 : State} {a0 : Array Value} {D : va_G} {J : FieldType → ClassId} {AA : Nat → Prop}
variable {p : Program} {l : Launch} {e : Env} {R : Room} {s : State} {m : MethodId} {args : Array Value} {below : List Frame} {meth : Method} {c : Code} {H : Heap} {locs : List Loc} {cells slots : Nat} {Q : State → Prop}
variable {pc len : Nat} {ls : Array Slot} {rst : List Value} {P : am_P} {lv st : List Value} {h : am_H} {r : am_S}
theorem am_w_ao : (.arrayOver (.object "MateProblems$MoveRow") : Jvm.Cond) ∈ lw_tbl := by decide +kernel
theorem am_w_ai : (.arrayClass .int : Jvm.Cond) ∈ lw_tbl ∧ (.arrayClass .char : Jvm.Cond) ∈ lw_tbl ∧ (.arrayClass .long : Jvm.Cond) ∈ lw_tbl := by decide +kernel
theorem ao_anewarray {ci : Nat} (C : am_cx k s0 a0 D J AA p R s m meth c) (hok : am_ok k pc (.anewarray ci) len = true) (A : am_at s0 D J AA s k P lv st h ls rst H locs) (e1 : am_o1 k (.anewarray ci) (pc + len) lv st h = some r) (hR : cells + (r.2.2.2.2.2.2.1 - h.2.2.2.1) ≤ R.cells ∧ slots + (r.2.2.2.2.2.2.2 - h.2.2.2.2) ≤ R.slots) (G : am_go s0 D J AA p l e R s m args below meth c k P cells slots h Q r) : W p l e R s m args below meth c H locs cells slots Q (F0 m pc ls rst) := by
  obtain ⟨r0, hd, hro⟩ := am_ok_r hok
  obtain ⟨A1, A2, A3, A4, ws, A5, A6, A7, A8⟩ := A
  change (match (generalizing := false) r0 with | .anewarray i => Nat.beq len 3 && Nat.beq ci 5 && am_wt (am_ix k i) (.classLink (am_y k).cls i "MateProblems$MoveRow") | _ => false) = true at hro
  change Option.map _ (match (generalizing := false) st with | .int n :: st => cond (decide (0 ≤ n.toInt ∧ n.toInt ≤ 65536)) ((am_new h (am_rg k) (.inr (.object (am_nm ci), n.toNatClampNeg, .inr (.inr (.inr (.inr (fun _ => none)))))) n.toNatClampNeg).map (fun r => (pc + len, Value.ref r.1 :: st, r.2))) none | _ => none) = some r at e1
  split at hro
  · rename_i i
    obtain ⟨h1, h3⟩ := am_b2 hro
    obtain ⟨h1, h2⟩ := am_b2 h1
    cases Nat.eq_of_beq_eq_true h1
    cases Nat.eq_of_beq_eq_true h2
    split at e1
    · rename_i n st
      obtain ⟨w0, r0, rfl, hv0, B0⟩ := am_vs.c1 A3
      cases (show w0 = .int n from hv0)
      by_cases hc : 0 ≤ n.toInt ∧ n.toInt ≤ 65536
      · rw [decide_eq_true hc] at e1
        obtain ⟨hn0, hn1⟩ := hc
        have hcl := am_ncl hn0 hn1
        rw [show am_nm 5 = "MateProblems$MoveRow" from rfl] at e1
        cases hnw : am_new h (am_rg k) (.inr (.object "MateProblems$MoveRow", n.toNatClampNeg, .inr (.inr (.inr (.inr (fun _ => none)))))) n.toNatClampNeg with
        | none => rw [hnw] at e1; cases e1
        | some x =>
          obtain ⟨a, h'⟩ := x
          rw [hnw] at e1
          cases e1
          have ht : FieldType.object "MateProblems$MoveRow" ∈ am_tl := by simp [am_tl]
          have key : ∀ q : Nat, am_wr J (am_pn (am_rg k) P q) h' (ws ++ [(q, .inl (J (.object "MateProblems$MoveRow"), n.toNatClampNeg, .inr (.inr (.inr (.inr (fun _ => none))))))]) ∧ am_ad (am_pn (am_rg k) P q) a = some q ∧ h'.1 = h.1 ∧ h'.2.2.2.1 = h.2.2.2.1 + 1 ∧ h'.2.2.2.2 = h.2.2.2.2 + n.toNatClampNeg :=
            fun q => A5.new hnw ⟨ht, _, rfl, rfl, _, rfl, fun _ => rfl⟩
          have hn := (key 0).2.2.2.1
          have hs := (key 0).2.2.2.2
          simp only [hn, hs, Nat.add_sub_cancel_left] at hR
          have hao : va_AO "MateProblems$MoveRow" s := (va_AO.of (C.2.2.2.2.1.1 _ am_w_ao)).moved C.2.2.2.2.2.1.alike
          refine va_newq C.1 C.2.1 C.2.2.2.1 (C.word (am_wt_mem h3) rfl) hao C.K A6 A7 A8 (am_hA C) (am_n0 hn0) rfl (by omega) hR.1 hR.2 hd fun q cA H1 K1 P1 D1 S1 => ?_
          have hJ : cA = J (.object "MateProblems$MoveRow") := am_kd C ht (K1.2 4 _ rfl).2
          subst hJ
          obtain ⟨k1, k2, k3, k4, k5⟩ := key q
          exact G.new k4 k5 ⟨A1.px (am_pn_px _ _ _), A2, ⟨⟨q, k2, rfl⟩, B0.px (am_pn_px _ _ _)⟩, by rw [k3]; exact A4.pn, _, k1, P1, D1, S1⟩
      · rw [decide_eq_false hc] at e1
        cases e1
    · cases e1
  · cases hro
theorem am_w_abs : (Jvm.Cond.static Lib.Math.abs.name ∈ lw_tbl) ∧ (Jvm.Cond.initialized "java/lang/Math" ∈ lw_tbl) ∧ (Jvm.Cond.code Lib.Math.abs.name Lib.Math.abs.code 1 (some .int) ∈ lw_tbl) := by decide +kernel
theorem am_w_obj : (Jvm.Cond.instanceMethod Lib.objectInit ∈ lw_tbl) ∧ (Jvm.Cond.code Lib.objectInit ⟨#[0xb1]⟩ 1 none ∈ lw_tbl) := by decide +kernel
theorem ao_f2i (C : am_cx k s0 a0 D J AA p R s m meth c) (hok : am_ok k pc .f2i len = true) (A : am_at s0 D J AA s k P lv st h ls rst H locs) (e1 : am_o1 k .f2i (pc + len) lv st h = some r) (hR : cells + (r.2.2.2.2.2.2.1 - h.2.2.2.1) ≤ R.cells ∧ slots + (r.2.2.2.2.2.2.2 - h.2.2.2.2) ≤ R.slots) (G : am_go s0 D J AA p l e R s m args below meth c k P cells slots h Q r) : W p l e R s m args below meth c H locs cells slots Q (F0 m pc ls rst) := by
  obtain ⟨r0, hd, hro⟩ := am_ok_r hok
  obtain ⟨A1, A2, A3, A4⟩ := A
  change (match (generalizing := false) r0 with | .invokestatic i => Nat.beq len 3 && am_wt (am_ix k i) (.methodLink (am_y k).cls i ⟨"java/lang/Math", "abs", "(I)I"⟩) | _ => false) = true at hro
  change Option.map _ (match (generalizing := false) st with | .int x :: st => cond (Nat.ble (am_wd st) 8) (some (pc + len, Value.int (am_abs x) :: st, h)) none | _ => none) = some r at e1
  split at hro
  · rename_i i
    obtain ⟨h1, h3⟩ := am_b2 hro
    cases Nat.eq_of_beq_eq_true h1
    split at e1
    · rename_i x st
      obtain ⟨w0, r0, rfl, hv0, B0⟩ := am_vs.c1 A3
      cases (show w0 = .int x from hv0)
      cases hwd : Nat.ble (am_wd st) 8 with
      | false => rw [hwd] at e1; cases e1
      | true => ?_
      rw [hwd] at e1
      cases e1
      have hsum := B0.wd
      have hle := Nat.le_of_ble_eq_true hwd
      have h40 := C.2.2.2.2.2.2.2.2.2.2.2
      simp only [Nat.sub_self, Nat.add_zero] at hR
      exact va_mabs C.1 C.2.1 (C.2.2.1.trans (by rw [← A2, A1.1])) C.2.2.2.1 (C.word (am_wt_mem h3) rfl) (C.word am_w_abs.1 rfl) (C.word am_w_abs.2.1 rfl) (C.word am_w_abs.2.2 rfl) C.2.2.2.2.2.2.2.2.2.2.1 (by omega) hR.1 hR.2 hd (G.same ⟨A1, A2, ⟨rfl, B0⟩, A4⟩)
    · cases e1
  · cases hro
theorem ao_pop (C : am_cx k s0 a0 D J AA p R s m meth c) (hok : am_ok k pc .pop len = true) (A : am_at s0 D J AA s k P lv st h ls rst H locs) (e1 : am_o1 k .pop (pc + len) lv st h = some r) (G : am_go s0 D J AA p l e R s m args below meth c k P cells slots h Q r) : W p l e R s m args below meth c H locs cells slots Q (F0 m pc ls rst) := by
  obtain ⟨r0, hd, hro⟩ := am_ok_r hok
  obtain ⟨hn, hr⟩ : len = 1 ∧ r0 = .pop := by
    have q : (am_smp .pop && Nat.beq len 1 && decide (r0 = .pop)) = true := hro
    simp only [Bool.and_eq_true, decide_eq_true_eq] at q
    exact ⟨Nat.eq_of_beq_eq_true q.1.2, q.2⟩
  subst hn; subst hr
  obtain ⟨A1, A2, A3, A4⟩ := A
  change Option.map _ (match (generalizing := false) st with | .int _ :: st => some (pc + 1, st, h) | _ => none) = some r at e1
  split at e1
  · rename_i x st
    obtain ⟨w0, r0, rfl, hv0, B0⟩ := am_vs.c1 A3
    cases (show w0 = .int x from hv0)
    cases e1
    exact lv_pop C.1 C.2.1 hd rfl (G.same ⟨A1, A2, B0, A4⟩)
  · cases e1
theorem ao_pop2 (C : am_cx k s0 a0 D J AA p R s m meth c) (hok : am_ok k pc .pop2 len = true) (A : am_at s0 D J AA s k P lv st h ls rst H locs) (e1 : am_o1 k .pop2 (pc + len) lv st h = some r) (G : am_go s0 D J AA p l e R s m args below meth c k P cells slots h Q r) : W p l e R s m args below meth c H locs cells slots Q (F0 m pc ls rst) := by
  obtain ⟨r0, hd, hro⟩ := am_ok_r hok
  obtain ⟨A1, A2, A3, A4⟩ := A
  change (match (generalizing := false) r0 with | .invokespecial i => Nat.beq len 3 && am_wt (am_ix k i) (.methodLink (am_y k).cls i ⟨"java/lang/Object", "<init>", "()V"⟩) | _ => false) = true at hro
  change Option.map _ (match (generalizing := false) st with | .ref _ :: st => cond (Nat.ble (am_wd st) 8) (some (pc + len, st, h)) none | _ => none) = some r at e1
  split at hro
  · rename_i i
    obtain ⟨h1, h3⟩ := am_b2 hro
    cases Nat.eq_of_beq_eq_true h1
    split at e1
    · rename_i x st
      obtain ⟨w0, r0, rfl, hv0, B0⟩ := am_vs.c1 A3
      obtain ⟨q, hq, rfl⟩ := hv0
      cases hwd : Nat.ble (am_wd st) 8 with
      | false => rw [hwd] at e1; cases e1
      | true => ?_
      rw [hwd] at e1
      cases e1
      have hsum := B0.wd
      have hle := Nat.le_of_ble_eq_true hwd
      have h40 := C.2.2.2.2.2.2.2.2.2.2.2
      exact W.objInit C.1 C.2.1 C.2.2.2.1 (C.word (am_wt_mem h3) rfl) (C.word am_w_obj.1 rfl) (C.word am_w_obj.2 rfl) rfl (by rw [C.2.2.1, ← A2, ← A1.1]) rfl hd C.2.2.2.2.2.2.2.2.2.2.1 (by show 2 * 0 + _ + 12 ≤ _; omega) (G.same ⟨A1, A2, B0, A4⟩)
    · cases e1
  · cases hro
end AM7
