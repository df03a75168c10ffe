theorem am_b2 {a b : Bool} (h : (a && b) = true) : a = true ∧ b = true := by simpa using h
section AM2
variable {k : Nat} {s0 : State} {a0 : Array Value} {D : va_G} {J : FieldType → ClassId} {AA : Nat → Prop}
variable {p : Program} {l : Launch} {e : Env} {R : Room} {s : State} {m : MethodId} {args : Array Value} {below : List Frame} {meth : Method} {c : Code} {H : Heap} {locs : List Loc} {cells slots : Nat} {Q : State → Prop}
variable {pc len : Nat} {ls : Array Slot} {rst : List Value} {P : am_P} {lv st : List Value} {h : am_H} {r : am_S}
theorem ao_sipush {v : Int} (C : am_cx k s0 a0 D J AA p R s m meth c) (hok : am_ok k pc (.sipush v) len = true) (A : am_at s0 D J AA s k P lv st h ls rst H locs) (e1 : am_o1 k (.sipush v) (pc + len) lv st h = some r) (G : am_go s0 D J AA p l e R s m args below meth c k P cells slots h Q r) : W p l e R s m args below meth c H locs cells slots Q (F0 m pc ls rst) := by
  obtain ⟨r0, hd, hro⟩ := am_ok_r hok
  change some (pc + len, lv, Value.int (am_lit v) :: st, h) = some r at e1
  cases e1
  obtain ⟨A1, A2, A3, A4⟩ := A
  change (match (generalizing := false) r0 with | .iconst x => Nat.beq len 1 && decide (Int32.ofInt x = am_lit v) | .bipush x => Nat.beq len 2 && decide ((Int8.ofInt x).toInt32 = am_lit v) | .sipush x => Nat.beq len 3 && decide ((Int16.ofInt x).toInt32 = am_lit v) | _ => false) = true at hro
  split at hro
  · obtain ⟨h1, h2⟩ := am_b2 hro
    cases Nat.eq_of_beq_eq_true h1
    exact lv_iconst C.1 C.2.1 hd (of_decide_eq_true h2) (G.same ⟨A1, A2, ⟨rfl, A3⟩, A4⟩)
  · obtain ⟨h1, h2⟩ := am_b2 hro
    cases Nat.eq_of_beq_eq_true h1
    exact lv_bipush C.1 C.2.1 hd (of_decide_eq_true h2) (G.same ⟨A1, A2, ⟨rfl, A3⟩, A4⟩)
  · obtain ⟨h1, h2⟩ := am_b2 hro
    cases Nat.eq_of_beq_eq_true h1
    exact lv_sipush C.1 C.2.1 hd (of_decide_eq_true h2) (G.same ⟨A1, A2, ⟨rfl, A3⟩, A4⟩)
  · cases hro
theorem ao_jsr_w {v : Int} (C : am_cx k s0 a0 D J AA p R s m meth c) (hok : am_ok k pc (.jsr_w v) len = true) (A : am_at s0 D J AA s k P lv st h ls rst H locs) (e1 : am_o1 k (.jsr_w v) (pc + len) lv st h = some r) (G : am_go s0 D J AA p l e R s m args below meth c k P cells slots h Q r) : W p l e R s m args below meth c H locs cells slots Q (F0 m pc ls rst) := by
  obtain ⟨r0, hd, hro⟩ := am_ok_r hok
  change some (pc + len, lv, Value.long (am_litl v) :: st, h) = some r at e1
  cases e1
  obtain ⟨A1, A2, A3, A4⟩ := A
  change (match (generalizing := false) r0 with | .lconst x => Nat.beq len 1 && decide (Int64.ofNat (x : Nat) = am_litl v) | .ldc2_w i => Nat.beq len 3 && am_wt (am_ix k i) (.constantLong (am_y k).cls i (am_litl v)) | _ => false) = true at hro
  split at hro
  · obtain ⟨h1, h2⟩ := am_b2 hro
    cases Nat.eq_of_beq_eq_true h1
    exact lv_lconst C.1 C.2.1 hd (of_decide_eq_true h2) (G.same ⟨A1, A2, ⟨rfl, A3⟩, A4⟩)
  · obtain ⟨h1, h2⟩ := am_b2 hro
    cases Nat.eq_of_beq_eq_true h1
    exact lv_ldc2 C.1 C.2.1 C.2.2.2.1 (C.word (am_wt_mem h2) rfl) hd (G.same ⟨A1, A2, ⟨rfl, A3⟩, A4⟩)
  · cases hro
theorem ao_aconst_null  (C : am_cx k s0 a0 D J AA p R s m meth c) (hok : am_ok k pc (.aconst_null) len = true) (A : am_at s0 D J AA s k P lv st h ls rst H locs) (e1 : am_o1 k (.aconst_null) (pc + len) lv st h = some r) (G : am_go s0 D J AA p l e R s m args below meth c k P cells slots h Q r) : W p l e R s m args below meth c H locs cells slots Q (F0 m pc ls rst) := by
  obtain ⟨r0, hd, hro⟩ := am_ok_r hok
  obtain ⟨hn, hr⟩ : len = 1 ∧ r0 = .aconst_null := by
    have q : (am_smp .aconst_null && Nat.beq len 1 && decide (r0 = .aconst_null)) = true := hro
    simp only [Bool.and_eq_true, decide_eq_true_eq] at q
    exact ⟨Nat.eq_of_beq_eq_true q.1.2, q.2⟩
  subst hn; subst hr
  obtain ⟨A1, A2, A3, A4⟩ := A
  change some (pc + 1, lv, Value.null :: st, h) = some r at e1
  cases e1
  exact lv_null C.1 C.2.1 hd (G.same ⟨A1, A2, ⟨rfl, A3⟩, A4⟩)
theorem ao_goto {t : Int} (C : am_cx k s0 a0 D J AA p R s m meth c) (hok : am_ok k pc (.goto t) len = true) (A : am_at s0 D J AA s k P lv st h ls rst H locs) (e1 : am_o1 k (.goto t) (pc + len) lv st h = some r) (G : am_go s0 D J AA p l e R s m args below meth c k P cells slots h Q r) : W p l e R s m args below meth c H locs cells slots Q (F0 m pc ls rst) := by
  obtain ⟨r0, hd, hro⟩ := am_ok_r hok
  change some (t.toNat, lv, st, h) = some r at e1
  cases e1
  change (match (generalizing := false) r0 with | .goto o => Nat.beq len 3 && decide ((pc : Int) + o = (t.toNat : Int)) | _ => false) = true at hro
  split at hro
  · obtain ⟨h1, h2⟩ := am_b2 hro
    cases Nat.eq_of_beq_eq_true h1
    exact lv_goto C.1 C.2.1 hd (of_decide_eq_true h2) (G.same A)
  · cases hro
theorem ao_idiv  (C : am_cx k s0 a0 D J AA p R s m meth c) (hok : am_ok k pc (.idiv) len = true) (A : am_at s0 D J AA s k P lv st h ls rst H locs) (e1 : am_o1 k (.idiv) (pc + len) lv st h = some r) (G : am_go s0 D J AA p l e R s m args below meth c k P cells slots h Q r) : W p l e R s m args below meth c H locs cells slots Q (F0 m pc ls rst) := by
  obtain ⟨r0, hd, hro⟩ := am_ok_r hok
  obtain ⟨hn, hr⟩ : len = 1 ∧ r0 = .idiv := by
    have q : (am_smp .idiv && Nat.beq len 1 && decide (r0 = .idiv)) = true := hro
    simp only [Bool.and_eq_true, decide_eq_true_eq] at q
    exact ⟨Nat.eq_of_beq_eq_true q.1.2, q.2⟩
  subst hn; subst hr
  obtain ⟨A1, A2, A3, A4⟩ := A
  change Option.map _ (match st with | .int y :: .int x :: st => cond (decide (y = 0)) none (some (pc + 1, Value.int (x / y) :: st, h)) | _ => none) = some r at e1
  split at e1
  · rename_i y x st
    obtain ⟨w0, r0, rfl, hv0, B0⟩ := am_vs.c1 A3
    cases (show w0 = .int y from hv0)
    obtain ⟨w1, r1, rfl, hv1, B1⟩ := am_vs.c1 B0
    cases (show w1 = .int x from hv1)
    by_cases hy : y = 0
    · rw [decide_eq_true hy] at e1
      cases e1
    · rw [decide_eq_false hy] at e1
      cases e1
      exact lv_idiv C.1 C.2.1 hd hy (G.same ⟨A1, A2, ⟨rfl, B1⟩, A4⟩)
  · cases e1
theorem ao_irem  (C : am_cx k s0 a0 D J AA p R s m meth c) (hok : am_ok k pc (.irem) len = true) (A : am_at s0 D J AA s k P lv st h ls rst H locs) (e1 : am_o1 k (.irem) (pc + len) lv st h = some r) (G : am_go s0 D J AA p l e R s m args below meth c k P cells slots h Q r) : W p l e R s m args below meth c H locs cells slots Q (F0 m pc ls rst) := by
  obtain ⟨r0, hd, hro⟩ := am_ok_r hok
  obtain ⟨hn, hr⟩ : len = 1 ∧ r0 = .irem := by
    have q : (am_smp .irem && Nat.beq len 1 && decide (r0 = .irem)) = true := hro
    simp only [Bool.and_eq_true, decide_eq_true_eq] at q
    exact ⟨Nat.eq_of_beq_eq_true q.1.2, q.2⟩
  subst hn; subst hr
  obtain ⟨A1, A2, A3, A4⟩ := A
  change Option.map _ (match st with | .int y :: .int x :: st => cond (decide (y = 0)) none (some (pc + 1, Value.int (x - x / y * y) :: st, h)) | _ => none) = some r at e1
  split at e1
  · rename_i y x st
    obtain ⟨w0, r0, rfl, hv0, B0⟩ := am_vs.c1 A3
    cases (show w0 = .int y from hv0)
    obtain ⟨w1, r1, rfl, hv1, B1⟩ := am_vs.c1 B0
    cases (show w1 = .int x from hv1)
    by_cases hy : y = 0
    · rw [decide_eq_true hy] at e1
      cases e1
    · rw [decide_eq_false hy] at e1
      cases e1
      exact lv_irem C.1 C.2.1 hd hy (G.same ⟨A1, A2, ⟨rfl, B1⟩, A4⟩)
  · cases e1
theorem ao_dup  (C : am_cx k s0 a0 D J AA p R s m meth c) (hok : am_ok k pc (.dup) len = true) (A : am_at s0 D J AA s k P lv st h ls rst H locs) (e1 : am_o1 k (.dup) (pc + len) lv st h = some r) (G : am_go s0 D J AA p l e R s m args below meth c k P cells slots h Q r) : W p l e R s m args below meth c H locs cells slots Q (F0 m pc ls rst) := by
  obtain ⟨r0, hd, hro⟩ := am_ok_r hok
  obtain ⟨hn, hr⟩ : len = 1 ∧ r0 = .dup := by
    have q : (am_smp .dup && Nat.beq len 1 && decide (r0 = .dup)) = true := hro
    simp only [Bool.and_eq_true, decide_eq_true_eq] at q
    exact ⟨Nat.eq_of_beq_eq_true q.1.2, q.2⟩
  subst hn; subst hr
  obtain ⟨A1, A2, A3, A4⟩ := A
  change Option.map _ (match st with | .int x :: st => some (pc + 1, .int x :: .int x :: st, h) | .ref x :: st => some (pc + 1, .ref x :: .ref x :: st, h) | _ => none) = some r at e1
  split at e1
  · rename_i x st
    obtain ⟨w0, r0, rfl, hv0, B0⟩ := am_vs.c1 A3
    cases (show w0 = .int x from hv0)
    cases e1
    exact lv_dup C.1 C.2.1 hd rfl (G.same ⟨A1, A2, ⟨rfl, ⟨rfl, B0⟩⟩, A4⟩)
  · rename_i x st
    obtain ⟨w0, r0, rfl, hv0, B0⟩ := am_vs.c1 A3
    obtain ⟨q0, hq0, rfl⟩ := hv0
    cases e1
    exact lv_dup C.1 C.2.1 hd rfl (G.same ⟨A1, A2, ⟨⟨_, hq0, rfl⟩, ⟨⟨_, hq0, rfl⟩, B0⟩⟩, A4⟩)
  · cases e1
theorem ao_dup_x1  (C : am_cx k s0 a0 D J AA p R s m meth c) (hok : am_ok k pc (.dup_x1) len = true) (A : am_at s0 D J AA s k P lv st h ls rst H locs) (e1 : am_o1 k (.dup_x1) (pc + len) lv st h = some r) (G : am_go s0 D J AA p l e R s m args below meth c k P cells slots h Q r) : W p l e R s m args below meth c H locs cells slots Q (F0 m pc ls rst) := by
  obtain ⟨r0, hd, hro⟩ := am_ok_r hok
  obtain ⟨hn, hr⟩ : len = 1 ∧ r0 = .dup_x1 := by
    have q : (am_smp .dup_x1 && Nat.beq len 1 && decide (r0 = .dup_x1)) = true := hro
    simp only [Bool.and_eq_true, decide_eq_true_eq] at q
    exact ⟨Nat.eq_of_beq_eq_true q.1.2, q.2⟩
  subst hn; subst hr
  obtain ⟨A1, A2, A3, A4⟩ := A
  change Option.map _ (match st with | .int x :: .ref y :: st => some (pc + 1, .int x :: .ref y :: .int x :: st, h) | .int x :: .int y :: st => some (pc + 1, .int x :: .int y :: .int x :: st, h) | _ => none) = some r at e1
  split at e1
  · rename_i x y st
    obtain ⟨w0, r0, rfl, hv0, B0⟩ := am_vs.c1 A3
    cases (show w0 = .int x from hv0)
    obtain ⟨w1, r1, rfl, hv1, B1⟩ := am_vs.c1 B0
    obtain ⟨q1, hq1, rfl⟩ := hv1
    cases e1
    exact lv_dup_x1 C.1 C.2.1 hd rfl rfl (G.same ⟨A1, A2, ⟨rfl, ⟨⟨_, hq1, rfl⟩, ⟨rfl, B1⟩⟩⟩, A4⟩)
  · rename_i x y st
    obtain ⟨w0, r0, rfl, hv0, B0⟩ := am_vs.c1 A3
    cases (show w0 = .int x from hv0)
    obtain ⟨w1, r1, rfl, hv1, B1⟩ := am_vs.c1 B0
    cases (show w1 = .int y from hv1)
    cases e1
    exact lv_dup_x1 C.1 C.2.1 hd rfl rfl (G.same ⟨A1, A2, ⟨rfl, ⟨rfl, ⟨rfl, B1⟩⟩⟩, A4⟩)
  · cases e1
theorem ao_dup_x2  (C : am_cx k s0 a0 D J AA p R s m meth c) (hok : am_ok k pc (.dup_x2) len = true) (A : am_at s0 D J AA s k P lv st h ls rst H locs) (e1 : am_o1 k (.dup_x2) (pc + len) lv st h = some r) (G : am_go s0 D J AA p l e R s m args below meth c k P cells slots h Q r) : W p l e R s m args below meth c H locs cells slots Q (F0 m pc ls rst) := by
  obtain ⟨r0, hd, hro⟩ := am_ok_r hok
  obtain ⟨hn, hr⟩ : len = 1 ∧ r0 = .dup_x2 := by
    have q : (am_smp .dup_x2 && Nat.beq len 1 && decide (r0 = .dup_x2)) = true := hro
    simp only [Bool.and_eq_true, decide_eq_true_eq] at q
    exact ⟨Nat.eq_of_beq_eq_true q.1.2, q.2⟩
  subst hn; subst hr
  obtain ⟨A1, A2, A3, A4⟩ := A
  change Option.map _ (match st with | .int x :: .int y :: .ref z :: st => some (pc + 1, .int x :: .int y :: .ref z :: .int x :: st, h) | _ => none) = some r at e1
  split at e1
  · rename_i x y z st
    obtain ⟨w0, r0, rfl, hv0, B0⟩ := am_vs.c1 A3
    cases (show w0 = .int x from hv0)
    obtain ⟨w1, r1, rfl, hv1, B1⟩ := am_vs.c1 B0
    cases (show w1 = .int y from hv1)
    obtain ⟨w2, r2, rfl, hv2, B2⟩ := am_vs.c1 B1
    obtain ⟨q2, hq2, rfl⟩ := hv2
    cases e1
    exact lv_dup_x2 C.1 C.2.1 hd rfl rfl rfl (G.same ⟨A1, A2, ⟨rfl, ⟨rfl, ⟨⟨_, hq2, rfl⟩, ⟨rfl, B2⟩⟩⟩⟩, A4⟩)
  · cases e1
theorem ao_dup2  (C : am_cx k s0 a0 D J AA p R s m meth c) (hok : am_ok k pc (.dup2) len = true) (A : am_at s0 D J AA s k P lv st h ls rst H locs) (e1 : am_o1 k (.dup2) (pc + len) lv st h = some r) (G : am_go s0 D J AA p l e R s m args below meth c k P cells slots h Q r) : W p l e R s m args below meth c H locs cells slots Q (F0 m pc ls rst) := by
  obtain ⟨r0, hd, hro⟩ := am_ok_r hok
  obtain ⟨hn, hr⟩ : len = 1 ∧ r0 = .dup2 := by
    have q : (am_smp .dup2 && Nat.beq len 1 && decide (r0 = .dup2)) = true := hro
    simp only [Bool.and_eq_true, decide_eq_true_eq] at q
    exact ⟨Nat.eq_of_beq_eq_true q.1.2, q.2⟩
  subst hn; subst hr
  obtain ⟨A1, A2, A3, A4⟩ := A
  change Option.map _ (match st with | .int x :: .ref y :: st => some (pc + 1, .int x :: .ref y :: .int x :: .ref y :: st, h) | .long x :: st => some (pc + 1, .long x :: .long x :: st, h) | _ => none) = some r at e1
  split at e1
  · rename_i x y st
    obtain ⟨w0, r0, rfl, hv0, B0⟩ := am_vs.c1 A3
    cases (show w0 = .int x from hv0)
    obtain ⟨w1, r1, rfl, hv1, B1⟩ := am_vs.c1 B0
    obtain ⟨q1, hq1, rfl⟩ := hv1
    cases e1
    exact lv_dup2_11 C.1 C.2.1 hd rfl rfl (G.same ⟨A1, A2, ⟨rfl, ⟨⟨_, hq1, rfl⟩, ⟨rfl, ⟨⟨_, hq1, rfl⟩, B1⟩⟩⟩⟩, A4⟩)
  · rename_i x st
    obtain ⟨w0, r0, rfl, hv0, B0⟩ := am_vs.c1 A3
    cases (show w0 = .long x from hv0)
    cases e1
    exact lv_dup2_2 C.1 C.2.1 hd rfl (G.same ⟨A1, A2, ⟨rfl, ⟨rfl, B0⟩⟩, A4⟩)
  · cases e1
theorem ao_ifCond_eq {t : Int} (C : am_cx k s0 a0 D J AA p R s m meth c) (hok : am_ok k pc (.ifCond .eq t) len = true) (A : am_at s0 D J AA s k P lv st h ls rst H locs) (e1 : am_o1 k (.ifCond .eq t) (pc + len) lv st h = some r) (G : am_go s0 D J AA p l e R s m args below meth c k P cells slots h Q r) : W p l e R s m args below meth c H locs cells slots Q (F0 m pc ls rst) := by
  obtain ⟨r0, hd, hro⟩ := am_ok_r hok
  obtain ⟨A1, A2, A3, A4⟩ := A
  change Option.map _ (match st with | .int x :: st => cond (decide (x = 0)) (some (t.toNat, st, h)) (some (pc + len, st, h)) | _ => none) = some r at e1
  change (match (generalizing := false) r0 with | .ifCond c' o => Nat.beq len 3 && decide (Jvm.ClassFile.Cond.eq = c') && decide ((pc : Int) + o = (t.toNat : Int)) | _ => false) = true at hro
  split at hro
  · obtain ⟨h1, h3⟩ := am_b2 hro
    obtain ⟨h1, h2⟩ := am_b2 h1
    cases Nat.eq_of_beq_eq_true h1
    cases of_decide_eq_true h2
    split at e1
    · rename_i x st
      obtain ⟨w0, r0, rfl, hv0, B0⟩ := am_vs.c1 A3
      cases (show w0 = .int x from hv0)
      refine lv_if_eq C.1 C.2.1 hd (of_decide_eq_true h3) (fun hc => ?_) (fun hc => ?_)
      · rw [decide_eq_true hc] at e1
        cases e1
        exact G.same ⟨A1, A2, B0, A4⟩
      · rw [decide_eq_false (hc)] at e1
        cases e1
        exact G.same ⟨A1, A2, B0, A4⟩
    · cases e1
  · cases hro
theorem ao_if_icmp_eq {t : Int} (C : am_cx k s0 a0 D J AA p R s m meth c) (hok : am_ok k pc (.if_icmp .eq t) len = true) (A : am_at s0 D J AA s k P lv st h ls rst H locs) (e1 : am_o1 k (.if_icmp .eq t) (pc + len) lv st h = some r) (G : am_go s0 D J AA p l e R s m args below meth c k P cells slots h Q r) : W p l e R s m args below meth c H locs cells slots Q (F0 m pc ls rst) := by
  obtain ⟨r0, hd, hro⟩ := am_ok_r hok
  obtain ⟨A1, A2, A3, A4⟩ := A
  change Option.map _ (match st with | .int y :: .int x :: st => cond (decide (x = y)) (some (t.toNat, st, h)) (some (pc + len, st, h)) | _ => none) = some r at e1
  change (match (generalizing := false) r0 with | .if_icmp c' o => Nat.beq len 3 && decide (Jvm.ClassFile.Cond.eq = c') && decide ((pc : Int) + o = (t.toNat : Int)) | _ => false) = true at hro
  split at hro
  · obtain ⟨h1, h3⟩ := am_b2 hro
    obtain ⟨h1, h2⟩ := am_b2 h1
    cases Nat.eq_of_beq_eq_true h1
    cases of_decide_eq_true h2
    split at e1
    · rename_i y x st
      obtain ⟨w0, r0, rfl, hv0, B0⟩ := am_vs.c1 A3
      cases (show w0 = .int y from hv0)
      obtain ⟨w1, r1, rfl, hv1, B1⟩ := am_vs.c1 B0
      cases (show w1 = .int x from hv1)
      refine lv_icmp_eq C.1 C.2.1 hd (of_decide_eq_true h3) (fun hc => ?_) (fun hc => ?_)
      · rw [decide_eq_true hc] at e1
        cases e1
        exact G.same ⟨A1, A2, B1, A4⟩
      · rw [decide_eq_false (hc)] at e1
        cases e1
        exact G.same ⟨A1, A2, B1, A4⟩
    · cases e1
  · cases hro
theorem ao_ifCond_ne {t : Int} (C : am_cx k s0 a0 D J AA p R s m meth c) (hok : am_ok k pc (.ifCond .ne t) len = true) (A : am_at s0 D J AA s k P lv st h ls rst H locs) (e1 : am_o1 k (.ifCond .ne t) (pc + len) lv st h = some r) (G : am_go s0 D J AA p l e R s m args below meth c k P cells slots h Q r) : W p l e R s m args below meth c H locs cells slots Q (F0 m pc ls rst) := by
  obtain ⟨r0, hd, hro⟩ := am_ok_r hok
  obtain ⟨A1, A2, A3, A4⟩ := A
  change Option.map _ (match st with | .int x :: st => cond (decide (¬ x = 0)) (some (t.toNat, st, h)) (some (pc + len, st, h)) | _ => none) = some r at e1
  change (match (generalizing := false) r0 with | .ifCond c' o => Nat.beq len 3 && decide (Jvm.ClassFile.Cond.ne = c') && decide ((pc : Int) + o = (t.toNat : Int)) | _ => false) = true at hro
  split at hro
  · obtain ⟨h1, h3⟩ := am_b2 hro
    obtain ⟨h1, h2⟩ := am_b2 h1
    cases Nat.eq_of_beq_eq_true h1
    cases of_decide_eq_true h2
    split at e1
    · rename_i x st
      obtain ⟨w0, r0, rfl, hv0, B0⟩ := am_vs.c1 A3
      cases (show w0 = .int x from hv0)
      refine lv_if_ne C.1 C.2.1 hd (of_decide_eq_true h3) (fun hc => ?_) (fun hc => ?_)
      · rw [decide_eq_true hc] at e1
        cases e1
        exact G.same ⟨A1, A2, B0, A4⟩
      · rw [decide_eq_false (fun q => q hc)] at e1
        cases e1
        exact G.same ⟨A1, A2, B0, A4⟩
    · cases e1
  · cases hro
theorem ao_if_icmp_ne {t : Int} (C : am_cx k s0 a0 D J AA p R s m meth c) (hok : am_ok k pc (.if_icmp .ne t) len = true) (A : am_at s0 D J AA s k P lv st h ls rst H locs) (e1 : am_o1 k (.if_icmp .ne t) (pc + len) lv st h = some r) (G : am_go s0 D J AA p l e R s m args below meth c k P cells slots h Q r) : W p l e R s m args below meth c H locs cells slots Q (F0 m pc ls rst) := by
  obtain ⟨r0, hd, hro⟩ := am_ok_r hok
  obtain ⟨A1, A2, A3, A4⟩ := A
  change Option.map _ (match st with | .int y :: .int x :: st => cond (decide (¬ x = y)) (some (t.toNat, st, h)) (some (pc + len, st, h)) | _ => none) = some r at e1
  change (match (generalizing := false) r0 with | .if_icmp c' o => Nat.beq len 3 && decide (Jvm.ClassFile.Cond.ne = c') && decide ((pc : Int) + o = (t.toNat : Int)) | _ => false) = true at hro
  split at hro
  · obtain ⟨h1, h3⟩ := am_b2 hro
    obtain ⟨h1, h2⟩ := am_b2 h1
    cases Nat.eq_of_beq_eq_true h1
    cases of_decide_eq_true h2
    split at e1
    · rename_i y x st
      obtain ⟨w0, r0, rfl, hv0, B0⟩ := am_vs.c1 A3
      cases (show w0 = .int y from hv0)
      obtain ⟨w1, r1, rfl, hv1, B1⟩ := am_vs.c1 B0
      cases (show w1 = .int x from hv1)
      refine lv_icmp_ne C.1 C.2.1 hd (of_decide_eq_true h3) (fun hc => ?_) (fun hc => ?_)
      · rw [decide_eq_true hc] at e1
        cases e1
        exact G.same ⟨A1, A2, B1, A4⟩
      · rw [decide_eq_false (fun q => q hc)] at e1
        cases e1
        exact G.same ⟨A1, A2, B1, A4⟩
    · cases e1
  · cases hro
theorem ao_ifCond_lt {t : Int} (C : am_cx k s0 a0 D J AA p R s m meth c) (hok : am_ok k pc (.ifCond .lt t) len = true) (A : am_at s0 D J AA s k P lv st h ls rst H locs) (e1 : am_o1 k (.ifCond .lt t) (pc + len) lv st h = some r) (G : am_go s0 D J AA p l e R s m args below meth c k P cells slots h Q r) : W p l e R s m args below meth c H locs cells slots Q (F0 m pc ls rst) := by
  obtain ⟨r0, hd, hro⟩ := am_ok_r hok
  obtain ⟨A1, A2, A3, A4⟩ := A
  change Option.map _ (match st with | .int x :: st => cond (decide (x < 0)) (some (t.toNat, st, h)) (some (pc + len, st, h)) | _ => none) = some r at e1
  change (match (generalizing := false) r0 with | .ifCond c' o => Nat.beq len 3 && decide (Jvm.ClassFile.Cond.lt = c') && decide ((pc : Int) + o = (t.toNat : Int)) | _ => false) = true at hro
  split at hro
  · obtain ⟨h1, h3⟩ := am_b2 hro
    obtain ⟨h1, h2⟩ := am_b2 h1
    cases Nat.eq_of_beq_eq_true h1
    cases of_decide_eq_true h2
    split at e1
    · rename_i x st
      obtain ⟨w0, r0, rfl, hv0, B0⟩ := am_vs.c1 A3
      cases (show w0 = .int x from hv0)
      refine lv_if_lt C.1 C.2.1 hd (of_decide_eq_true h3) (fun hc => ?_) (fun hc => ?_)
      · rw [decide_eq_true hc] at e1
        cases e1
        exact G.same ⟨A1, A2, B0, A4⟩
      · rw [decide_eq_false (hc)] at e1
        cases e1
        exact G.same ⟨A1, A2, B0, A4⟩
    · cases e1
  · cases hro
theorem ao_if_icmp_lt {t : Int} (C : am_cx k s0 a0 D J AA p R s m meth c) (hok : am_ok k pc (.if_icmp .lt t) len = true) (A : am_at s0 D J AA s k P lv st h ls rst H locs) (e1 : am_o1 k (.if_icmp .lt t) (pc + len) lv st h = some r) (G : am_go s0 D J AA p l e R s m args below meth c k P cells slots h Q r) : W p l e R s m args below meth c H locs cells slots Q (F0 m pc ls rst) := by
  obtain ⟨r0, hd, hro⟩ := am_ok_r hok
  obtain ⟨A1, A2, A3, A4⟩ := A
  change Option.map _ (match st with | .int y :: .int x :: st => cond (decide (x < y)) (some (t.toNat, st, h)) (some (pc + len, st, h)) | _ => none) = some r at e1
  change (match (generalizing := false) r0 with | .if_icmp c' o => Nat.beq len 3 && decide (Jvm.ClassFile.Cond.lt = c') && decide ((pc : Int) + o = (t.toNat : Int)) | _ => false) = true at hro
  split at hro
  · obtain ⟨h1, h3⟩ := am_b2 hro
    obtain ⟨h1, h2⟩ := am_b2 h1
    cases Nat.eq_of_beq_eq_true h1
    cases of_decide_eq_true h2
    split at e1
    · rename_i y x st
      obtain ⟨w0, r0, rfl, hv0, B0⟩ := am_vs.c1 A3
      cases (show w0 = .int y from hv0)
      obtain ⟨w1, r1, rfl, hv1, B1⟩ := am_vs.c1 B0
      cases (show w1 = .int x from hv1)
      refine lv_icmp_lt C.1 C.2.1 hd (of_decide_eq_true h3) (fun hc => ?_) (fun hc => ?_)
      · rw [decide_eq_true hc] at e1
        cases e1
        exact G.same ⟨A1, A2, B1, A4⟩
      · rw [decide_eq_false (hc)] at e1
        cases e1
        exact G.same ⟨A1, A2, B1, A4⟩
    · cases e1
  · cases hro
theorem ao_ifCond_ge {t : Int} (C : am_cx k s0 a0 D J AA p R s m meth c) (hok : am_ok k pc (.ifCond .ge t) len = true) (A : am_at s0 D J AA s k P lv st h ls rst H locs) (e1 : am_o1 k (.ifCond .ge t) (pc + len) lv st h = some r) (G : am_go s0 D J AA p l e R s m args below meth c k P cells slots h Q r) : W p l e R s m args below meth c H locs cells slots Q (F0 m pc ls rst) := by
  obtain ⟨r0, hd, hro⟩ := am_ok_r hok
  obtain ⟨A1, A2, A3, A4⟩ := A
  change Option.map _ (match st with | .int x :: st => cond (decide (0 ≤ x)) (some (t.toNat, st, h)) (some (pc + len, st, h)) | _ => none) = some r at e1
  change (match (generalizing := false) r0 with | .ifCond c' o => Nat.beq len 3 && decide (Jvm.ClassFile.Cond.ge = c') && decide ((pc : Int) + o = (t.toNat : Int)) | _ => false) = true at hro
  split at hro
  · obtain ⟨h1, h3⟩ := am_b2 hro
    obtain ⟨h1, h2⟩ := am_b2 h1
    cases Nat.eq_of_beq_eq_true h1
    cases of_decide_eq_true h2
    split at e1
    · rename_i x st
      obtain ⟨w0, r0, rfl, hv0, B0⟩ := am_vs.c1 A3
      cases (show w0 = .int x from hv0)
      refine lv_if_ge C.1 C.2.1 hd (of_decide_eq_true h3) (fun hc => ?_) (fun hc => ?_)
      · rw [decide_eq_true hc] at e1
        cases e1
        exact G.same ⟨A1, A2, B0, A4⟩
      · rw [decide_eq_false (hc)] at e1
        cases e1
        exact G.same ⟨A1, A2, B0, A4⟩
    · cases e1
  · cases hro
theorem ao_if_icmp_ge {t : Int} (C : am_cx k s0 a0 D J AA p R s m meth c) (hok : am_ok k pc (.if_icmp .ge t) len = true) (A : am_at s0 D J AA s k P lv st h ls rst H locs) (e1 : am_o1 k (.if_icmp .ge t) (pc + len) lv st h = some r) (G : am_go s0 D J AA p l e R s m args below meth c k P cells slots h Q r) : W p l e R s m args below meth c H locs cells slots Q (F0 m pc ls rst) := by
  obtain ⟨r0, hd, hro⟩ := am_ok_r hok
  obtain ⟨A1, A2, A3, A4⟩ := A
  change Option.map _ (match st with | .int y :: .int x :: st => cond (decide (y ≤ x)) (some (t.toNat, st, h)) (some (pc + len, st, h)) | _ => none) = some r at e1
  change (match (generalizing := false) r0 with | .if_icmp c' o => Nat.beq len 3 && decide (Jvm.ClassFile.Cond.ge = c') && decide ((pc : Int) + o = (t.toNat : Int)) | _ => false) = true at hro
  split at hro
  · obtain ⟨h1, h3⟩ := am_b2 hro
    obtain ⟨h1, h2⟩ := am_b2 h1
    cases Nat.eq_of_beq_eq_true h1
    cases of_decide_eq_true h2
    split at e1
    · rename_i y x st
      obtain ⟨w0, r0, rfl, hv0, B0⟩ := am_vs.c1 A3
      cases (show w0 = .int y from hv0)
      obtain ⟨w1, r1, rfl, hv1, B1⟩ := am_vs.c1 B0
      cases (show w1 = .int x from hv1)
      refine lv_icmp_ge C.1 C.2.1 hd (of_decide_eq_true h3) (fun hc => ?_) (fun hc => ?_)
      · rw [decide_eq_true hc] at e1
        cases e1
        exact G.same ⟨A1, A2, B1, A4⟩
      · rw [decide_eq_false (hc)] at e1
        cases e1
        exact G.same ⟨A1, A2, B1, A4⟩
    · cases e1
  · cases hro
theorem ao_ifCond_gt {t : Int} (C : am_cx k s0 a0 D J AA p R s m meth c) (hok : am_ok k pc (.ifCond .gt t) len = true) (A : am_at s0 D J AA s k P lv st h ls rst H locs) (e1 : am_o1 k (.ifCond .gt t) (pc + len) lv st h = some r) (G : am_go s0 D J AA p l e R s m args below meth c k P cells slots h Q r) : W p l e R s m args below meth c H locs cells slots Q (F0 m pc ls rst) := by
  obtain ⟨r0, hd, hro⟩ := am_ok_r hok
  obtain ⟨A1, A2, A3, A4⟩ := A
  change Option.map _ (match st with | .int x :: st => cond (decide (0 < x)) (some (t.toNat, st, h)) (some (pc + len, st, h)) | _ => none) = some r at e1
  change (match (generalizing := false) r0 with | .ifCond c' o => Nat.beq len 3 && decide (Jvm.ClassFile.Cond.gt = c') && decide ((pc : Int) + o = (t.toNat : Int)) | _ => false) = true at hro
  split at hro
  · obtain ⟨h1, h3⟩ := am_b2 hro
    obtain ⟨h1, h2⟩ := am_b2 h1
    cases Nat.eq_of_beq_eq_true h1
    cases of_decide_eq_true h2
    split at e1
    · rename_i x st
      obtain ⟨w0, r0, rfl, hv0, B0⟩ := am_vs.c1 A3
      cases (show w0 = .int x from hv0)
      refine lv_if_gt C.1 C.2.1 hd (of_decide_eq_true h3) (fun hc => ?_) (fun hc => ?_)
      · rw [decide_eq_true hc] at e1
        cases e1
        exact G.same ⟨A1, A2, B0, A4⟩
      · rw [decide_eq_false (hc)] at e1
        cases e1
        exact G.same ⟨A1, A2, B0, A4⟩
    · cases e1
  · cases hro
theorem ao_if_icmp_gt {t : Int} (C : am_cx k s0 a0 D J AA p R s m meth c) (hok : am_ok k pc (.if_icmp .gt t) len = true) (A : am_at s0 D J AA s k P lv st h ls rst H locs) (e1 : am_o1 k (.if_icmp .gt t) (pc + len) lv st h = some r) (G : am_go s0 D J AA p l e R s m args below meth c k P cells slots h Q r) : W p l e R s m args below meth c H locs cells slots Q (F0 m pc ls rst) := by
  obtain ⟨r0, hd, hro⟩ := am_ok_r hok
  obtain ⟨A1, A2, A3, A4⟩ := A
  change Option.map _ (match st with | .int y :: .int x :: st => cond (decide (y < x)) (some (t.toNat, st, h)) (some (pc + len, st, h)) | _ => none) = some r at e1
  change (match (generalizing := false) r0 with | .if_icmp c' o => Nat.beq len 3 && decide (Jvm.ClassFile.Cond.gt = c') && decide ((pc : Int) + o = (t.toNat : Int)) | _ => false) = true at hro
  split at hro
  · obtain ⟨h1, h3⟩ := am_b2 hro
    obtain ⟨h1, h2⟩ := am_b2 h1
    cases Nat.eq_of_beq_eq_true h1
    cases of_decide_eq_true h2
    split at e1
    · rename_i y x st
      obtain ⟨w0, r0, rfl, hv0, B0⟩ := am_vs.c1 A3
      cases (show w0 = .int y from hv0)
      obtain ⟨w1, r1, rfl, hv1, B1⟩ := am_vs.c1 B0
      cases (show w1 = .int x from hv1)
      refine lv_icmp_gt C.1 C.2.1 hd (of_decide_eq_true h3) (fun hc => ?_) (fun hc => ?_)
      · rw [decide_eq_true hc] at e1
        cases e1
        exact G.same ⟨A1, A2, B1, A4⟩
      · rw [decide_eq_false (hc)] at e1
        cases e1
        exact G.same ⟨A1, A2, B1, A4⟩
    · cases e1
  · cases hro
theorem ao_ifCond_le {t : Int} (C : am_cx k s0 a0 D J AA p R s m meth c) (hok : am_ok k pc (.ifCond .le t) len = true) (A : am_at s0 D J AA s k P lv st h ls rst H locs) (e1 : am_o1 k (.ifCond .le t) (pc + len) lv st h = some r) (G : am_go s0 D J AA p l e R s m args below meth c k P cells slots h Q r) : W p l e R s m args below meth c H locs cells slots Q (F0 m pc ls rst) := by
  obtain ⟨r0, hd, hro⟩ := am_ok_r hok
  obtain ⟨A1, A2, A3, A4⟩ := A
  change Option.map _ (match st with | .int x :: st => cond (decide (x ≤ 0)) (some (t.toNat, st, h)) (some (pc + len, st, h)) | _ => none) = some r at e1
  change (match (generalizing := false) r0 with | .ifCond c' o => Nat.beq len 3 && decide (Jvm.ClassFile.Cond.le = c') && decide ((pc : Int) + o = (t.toNat : Int)) | _ => false) = true at hro
  split at hro
  · obtain ⟨h1, h3⟩ := am_b2 hro
    obtain ⟨h1, h2⟩ := am_b2 h1
    cases Nat.eq_of_beq_eq_true h1
    cases of_decide_eq_true h2
    split at e1
    · rename_i x st
      obtain ⟨w0, r0, rfl, hv0, B0⟩ := am_vs.c1 A3
      cases (show w0 = .int x from hv0)
      refine lv_if_le C.1 C.2.1 hd (of_decide_eq_true h3) (fun hc => ?_) (fun hc => ?_)
      · rw [decide_eq_true hc] at e1
        cases e1
        exact G.same ⟨A1, A2, B0, A4⟩
      · rw [decide_eq_false (hc)] at e1
        cases e1
        exact G.same ⟨A1, A2, B0, A4⟩
    · cases e1
  · cases hro
theorem ao_if_icmp_le {t : Int} (C : am_cx k s0 a0 D J AA p R s m meth c) (hok : am_ok k pc (.if_icmp .le t) len = true) (A : am_at s0 D J AA s k P lv st h ls rst H locs) (e1 : am_o1 k (.if_icmp .le t) (pc + len) lv st h = some r) (G : am_go s0 D J AA p l e R s m args below meth c k P cells slots h Q r) : W p l e R s m args below meth c H locs cells slots Q (F0 m pc ls rst) := by
  obtain ⟨r0, hd, hro⟩ := am_ok_r hok
  obtain ⟨A1, A2, A3, A4⟩ := A
  change Option.map _ (match st with | .int y :: .int x :: st => cond (decide (x ≤ y)) (some (t.toNat, st, h)) (some (pc + len, st, h)) | _ => none) = some r at e1
  change (match (generalizing := false) r0 with | .if_icmp c' o => Nat.beq len 3 && decide (Jvm.ClassFile.Cond.le = c') && decide ((pc : Int) + o = (t.toNat : Int)) | _ => false) = true at hro
  split at hro
  · obtain ⟨h1, h3⟩ := am_b2 hro
    obtain ⟨h1, h2⟩ := am_b2 h1
    cases Nat.eq_of_beq_eq_true h1
    cases of_decide_eq_true h2
    split at e1
    · rename_i y x st
      obtain ⟨w0, r0, rfl, hv0, B0⟩ := am_vs.c1 A3
      cases (show w0 = .int y from hv0)
      obtain ⟨w1, r1, rfl, hv1, B1⟩ := am_vs.c1 B0
      cases (show w1 = .int x from hv1)
      refine lv_icmp_le C.1 C.2.1 hd (of_decide_eq_true h3) (fun hc => ?_) (fun hc => ?_)
      · rw [decide_eq_true hc] at e1
        cases e1
        exact G.same ⟨A1, A2, B1, A4⟩
      · rw [decide_eq_false (hc)] at e1
        cases e1
        exact G.same ⟨A1, A2, B1, A4⟩
    · cases e1
  · cases hro
theorem ao_ifCond {b : Jvm.ClassFile.Cond} {t : Int} (C : am_cx k s0 a0 D J AA p R s m meth c) (hok : am_ok k pc (.ifCond b t) len = true) (A : am_at s0 D J AA s k P lv st h ls rst H locs) (e1 : am_o1 k (.ifCond b t) (pc + len) lv st h = some r) (G : am_go s0 D J AA p l e R s m args below meth c k P cells slots h Q r) : W p l e R s m args below meth c H locs cells slots Q (F0 m pc ls rst) := by
  cases b
  · exact ao_ifCond_eq C hok A e1 G
  · exact ao_ifCond_ne C hok A e1 G
  · exact ao_ifCond_lt C hok A e1 G
  · exact ao_ifCond_ge C hok A e1 G
  · exact ao_ifCond_gt C hok A e1 G
  · exact ao_ifCond_le C hok A e1 G
theorem ao_if_icmp {b : Jvm.ClassFile.Cond} {t : Int} (C : am_cx k s0 a0 D J AA p R s m meth c) (hok : am_ok k pc (.if_icmp b t) len = true) (A : am_at s0 D J AA s k P lv st h ls rst H locs) (e1 : am_o1 k (.if_icmp b t) (pc + len) lv st h = some r) (G : am_go s0 D J AA p l e R s m args below meth c k P cells slots h Q r) : W p l e R s m args below meth c H locs cells slots Q (F0 m pc ls rst) := by
  cases b
  · exact ao_if_icmp_eq C hok A e1 G
  · exact ao_if_icmp_ne C hok A e1 G
  · exact ao_if_icmp_lt C hok A e1 G
  · exact ao_if_icmp_ge C hok A e1 G
  · exact ao_if_icmp_gt C hok A e1 G
  · exact ao_if_icmp_le C hok A e1 G
theorem ao_iload {i : Nat} (C : am_cx k s0 a0 D J AA p R s m meth c) (hok : am_ok k pc (.iload i) len = true) (A : am_at s0 D J AA s k P lv st h ls rst H locs) (e1 : am_o1 k (.iload i) (pc + len) lv st h = some r) (G : am_go s0 D J AA p l e R s m args below meth c k P cells slots h Q r) : W p l e R s m args below meth c H locs cells slots Q (F0 m pc ls rst) := by
  obtain ⟨r0, hd, hro⟩ := am_ok_r hok
  obtain ⟨A1, A2, A3, A4⟩ := A
  change (match (generalizing := false) am_nth lv i with | some (.int x) => some (pc + len, lv, Value.int x :: st, h) | _ => none) = some r at e1
  change (match (generalizing := false) r0 with | .iload j => Nat.beq len 2 && Nat.beq i j | .iload_n j => Nat.beq len 1 && Nat.beq i (j : Nat) | _ => false) = true at hro
  split at e1
  · rename_i x hx
    cases e1
    obtain ⟨w, hw, hl⟩ := A1.nth hx (by intro q; cases q)
    cases (show w = .int x from hw)
    split at hro
    · obtain ⟨h1, h2⟩ := am_b2 hro
      cases Nat.eq_of_beq_eq_true h1
      cases Nat.eq_of_beq_eq_true h2
      exact lv_iload C.1 C.2.1 hd hl (G.same ⟨A1, A2, ⟨rfl, A3⟩, A4⟩)
    · obtain ⟨h1, h2⟩ := am_b2 hro
      cases Nat.eq_of_beq_eq_true h1
      exact lv_iload_n C.1 C.2.1 hd (Nat.eq_of_beq_eq_true h2).symm hl (G.same ⟨A1, A2, ⟨rfl, A3⟩, A4⟩)
    · cases hro
  · cases e1
theorem ao_lload {i : Nat} (C : am_cx k s0 a0 D J AA p R s m meth c) (hok : am_ok k pc (.lload i) len = true) (A : am_at s0 D J AA s k P lv st h ls rst H locs) (e1 : am_o1 k (.lload i) (pc + len) lv st h = some r) (G : am_go s0 D J AA p l e R s m args below meth c k P cells slots h Q r) : W p l e R s m args below meth c H locs cells slots Q (F0 m pc ls rst) := by
  obtain ⟨r0, hd, hro⟩ := am_ok_r hok
  obtain ⟨A1, A2, A3, A4⟩ := A
  change (match (generalizing := false) am_nth lv i with | some (.long x) => some (pc + len, lv, Value.long x :: st, h) | _ => none) = some r at e1
  change (match (generalizing := false) r0 with | .lload j => Nat.beq len 2 && Nat.beq i j | .lload_n j => Nat.beq len 1 && Nat.beq i (j : Nat) | _ => false) = true at hro
  split at e1
  · rename_i x hx
    cases e1
    obtain ⟨w, hw, hl⟩ := A1.nth hx (by intro q; cases q)
    cases (show w = .long x from hw)
    split at hro
    · obtain ⟨h1, h2⟩ := am_b2 hro
      cases Nat.eq_of_beq_eq_true h1
      cases Nat.eq_of_beq_eq_true h2
      exact lv_lload C.1 C.2.1 hd hl (G.same ⟨A1, A2, ⟨rfl, A3⟩, A4⟩)
    · obtain ⟨h1, h2⟩ := am_b2 hro
      cases Nat.eq_of_beq_eq_true h1
      exact lv_lload_n C.1 C.2.1 hd (Nat.eq_of_beq_eq_true h2).symm hl (G.same ⟨A1, A2, ⟨rfl, A3⟩, A4⟩)
    · cases hro
  · cases e1
theorem ao_aload {i : Nat} (C : am_cx k s0 a0 D J AA p R s m meth c) (hok : am_ok k pc (.aload i) len = true) (A : am_at s0 D J AA s k P lv st h ls rst H locs) (e1 : am_o1 k (.aload i) (pc + len) lv st h = some r) (G : am_go s0 D J AA p l e R s m args below meth c k P cells slots h Q r) : W p l e R s m args below meth c H locs cells slots Q (F0 m pc ls rst) := by
  obtain ⟨r0, hd, hro⟩ := am_ok_r hok
  obtain ⟨A1, A2, A3, A4⟩ := A
  change (match (generalizing := false) am_nth lv i with | some (.ref x) => some (pc + len, lv, Value.ref x :: st, h) | _ => none) = some r at e1
  change (match (generalizing := false) r0 with | .aload j => Nat.beq len 2 && Nat.beq i j | .aload_n j => Nat.beq len 1 && Nat.beq i (j : Nat) | _ => false) = true at hro
  split at e1
  · rename_i x hx
    cases e1
    obtain ⟨w, hw, hl⟩ := A1.nth hx (by intro q; cases q)
    obtain ⟨q, hq, rfl⟩ := hw
    split at hro
    · obtain ⟨h1, h2⟩ := am_b2 hro
      cases Nat.eq_of_beq_eq_true h1
      cases Nat.eq_of_beq_eq_true h2
      exact lv_aload C.1 C.2.1 hd hl (G.same ⟨A1, A2, ⟨⟨_, hq, rfl⟩, A3⟩, A4⟩)
    · obtain ⟨h1, h2⟩ := am_b2 hro
      cases Nat.eq_of_beq_eq_true h1
      exact lv_aload_n C.1 C.2.1 hd (Nat.eq_of_beq_eq_true h2).symm hl (G.same ⟨A1, A2, ⟨⟨_, hq, rfl⟩, A3⟩, A4⟩)
    · cases hro
  · cases e1
theorem ao_istore {i : Nat} (C : am_cx k s0 a0 D J AA p R s m meth c) (hok : am_ok k pc (.istore i) len = true) (A : am_at s0 D J AA s k P lv st h ls rst H locs) (e1 : am_o1 k (.istore i) (pc + len) lv st h = some r) (G : am_go s0 D J AA p l e R s m args below meth c k P cells slots h Q r) : W p l e R s m args below meth c H locs cells slots Q (F0 m pc ls rst) := by
  obtain ⟨r0, hd, hro⟩ := am_ok_r hok
  obtain ⟨A1, A2, A3, A4⟩ := A
  change (match (generalizing := false) st with | .int x :: st => some (pc + len, am_st1 lv i (.int x), st, h) | _ => none) = some r at e1
  change (match (generalizing := false) r0 with | .istore j => Nat.beq len 2 && Nat.beq i j && Nat.blt i (am_ml k) | .istore_n j => Nat.beq len 1 && Nat.beq i (j : Nat) && Nat.blt i (am_ml k) | _ => false) = true at hro
  split at e1
  · rename_i x st
    cases e1
    obtain ⟨w0, r0, rfl, hv0, B0⟩ := am_vs.c1 A3
    cases (show w0 = .int x from hv0)
    have hsz : am_ml k = ls.size := by rw [A1.1, A2]
    split at hro
    · obtain ⟨h1, h3⟩ := am_b2 hro
      obtain ⟨h1, h2⟩ := am_b2 h1
      cases Nat.eq_of_beq_eq_true h1
      cases Nat.eq_of_beq_eq_true h2
      rw [am_blt, hsz] at h3
      exact lv_istore C.1 C.2.1 hd (am_all_has A1.2.1) h3 rfl fun ls' hh => G.same ⟨A1.st1 (Or.inr rfl) hh rfl, by rw [am_st1_len]; exact A2, B0, A4⟩
    · obtain ⟨h1, h3⟩ := am_b2 hro
      obtain ⟨h1, h2⟩ := am_b2 h1
      cases Nat.eq_of_beq_eq_true h1
      rw [am_blt, hsz] at h3
      exact lv_istore_n C.1 C.2.1 hd (Nat.eq_of_beq_eq_true h2).symm (am_all_has A1.2.1) h3 rfl fun ls' hh => G.same ⟨A1.st1 (Or.inr rfl) hh rfl, by rw [am_st1_len]; exact A2, B0, A4⟩
    · cases hro
  · cases e1
theorem ao_lstore {i : Nat} (C : am_cx k s0 a0 D J AA p R s m meth c) (hok : am_ok k pc (.lstore i) len = true) (A : am_at s0 D J AA s k P lv st h ls rst H locs) (e1 : am_o1 k (.lstore i) (pc + len) lv st h = some r) (G : am_go s0 D J AA p l e R s m args below meth c k P cells slots h Q r) : W p l e R s m args below meth c H locs cells slots Q (F0 m pc ls rst) := by
  obtain ⟨r0, hd, hro⟩ := am_ok_r hok
  obtain ⟨A1, A2, A3, A4⟩ := A
  change (match (generalizing := false) st with | .long x :: st => some (pc + len, am_st2 lv i (.long x), st, h) | _ => none) = some r at e1
  change (match (generalizing := false) r0 with | .lstore j => Nat.beq len 2 && Nat.beq i j && Nat.blt (i + 1) (am_ml k) | .lstore_n j => Nat.beq len 1 && Nat.beq i (j : Nat) && Nat.blt (i + 1) (am_ml k) | _ => false) = true at hro
  split at e1
  · rename_i x st
    cases e1
    obtain ⟨w0, r0, rfl, hv0, B0⟩ := am_vs.c1 A3
    cases (show w0 = .long x from hv0)
    have hsz : am_ml k = ls.size := by rw [A1.1, A2]
    split at hro
    · obtain ⟨h1, h3⟩ := am_b2 hro
      obtain ⟨h1, h2⟩ := am_b2 h1
      cases Nat.eq_of_beq_eq_true h1
      cases Nat.eq_of_beq_eq_true h2
      rw [am_blt, hsz] at h3
      exact lv_lstore C.1 C.2.1 hd (am_all_has A1.2.1) h3 rfl fun ls' hh => G.same ⟨A1.st2 hh, by rw [am_st2_len]; exact A2, B0, A4⟩
    · obtain ⟨h1, h3⟩ := am_b2 hro
      obtain ⟨h1, h2⟩ := am_b2 h1
      cases Nat.eq_of_beq_eq_true h1
      rw [am_blt, hsz] at h3
      exact lv_lstore_n C.1 C.2.1 hd (Nat.eq_of_beq_eq_true h2).symm (am_all_has A1.2.1) h3 rfl fun ls' hh => G.same ⟨A1.st2 hh, by rw [am_st2_len]; exact A2, B0, A4⟩
    · cases hro
  · cases e1
theorem ao_astore {i : Nat} (C : am_cx k s0 a0 D J AA p R s m meth c) (hok : am_ok k pc (.astore i) len = true) (A : am_at s0 D J AA s k P lv st h ls rst H locs) (e1 : am_o1 k (.astore i) (pc + len) lv st h = some r) (G : am_go s0 D J AA p l e R s m args below meth c k P cells slots h Q r) : W p l e R s m args below meth c H locs cells slots Q (F0 m pc ls rst) := by
  obtain ⟨r0, hd, hro⟩ := am_ok_r hok
  obtain ⟨A1, A2, A3, A4⟩ := A
  change (match (generalizing := false) st with | .ref x :: st => some (pc + len, am_st1 lv i (.ref x), st, h) | _ => none) = some r at e1
  change (match (generalizing := false) r0 with | .astore j => Nat.beq len 2 && Nat.beq i j && Nat.blt i (am_ml k) | .astore_n j => Nat.beq len 1 && Nat.beq i (j : Nat) && Nat.blt i (am_ml k) | _ => false) = true at hro
  split at e1
  · rename_i x st
    cases e1
    obtain ⟨w0, r0, rfl, hv0, B0⟩ := am_vs.c1 A3
    obtain ⟨q, hq, rfl⟩ := hv0
    have hsz : am_ml k = ls.size := by rw [A1.1, A2]
    split at hro
    · obtain ⟨h1, h3⟩ := am_b2 hro
      obtain ⟨h1, h2⟩ := am_b2 h1
      cases Nat.eq_of_beq_eq_true h1
      cases Nat.eq_of_beq_eq_true h2
      rw [am_blt, hsz] at h3
      exact lv_astore C.1 C.2.1 hd (am_all_has A1.2.1) h3 rfl fun ls' hh => G.same ⟨A1.st1 (Or.inr ⟨_, hq, rfl⟩) hh rfl, by rw [am_st1_len]; exact A2, B0, A4⟩
    · obtain ⟨h1, h3⟩ := am_b2 hro
      obtain ⟨h1, h2⟩ := am_b2 h1
      cases Nat.eq_of_beq_eq_true h1
      rw [am_blt, hsz] at h3
      exact lv_astore_n C.1 C.2.1 hd (Nat.eq_of_beq_eq_true h2).symm (am_all_has A1.2.1) h3 rfl fun ls' hh => G.same ⟨A1.st1 (Or.inr ⟨_, hq, rfl⟩) hh rfl, by rw [am_st1_len]; exact A2, B0, A4⟩
    · cases hro
  · cases e1
theorem ao_iinc {i : Nat} {v : Int} (C : am_cx k s0 a0 D J AA p R s m meth c) (hok : am_ok k pc (.iinc i v) len = true) (A : am_at s0 D J AA s k P lv st h ls rst H locs) (e1 : am_o1 k (.iinc i v) (pc + len) lv st h = some r) (G : am_go s0 D J AA p l e R s m args below meth c k P cells slots h Q r) : W p l e R s m args below meth c H locs cells slots Q (F0 m pc ls rst) := by
  obtain ⟨r0, hd, hro⟩ := am_ok_r hok
  obtain ⟨A1, A2, A3, A4⟩ := A
  change (match (generalizing := false) am_nth lv i with | some (.int x) => some (pc + len, am_st1 lv i (.int (x + am_lit v)), st, h) | _ => none) = some r at e1
  change (match (generalizing := false) r0 with | .iinc j c' => Nat.beq len 3 && Nat.beq i j && Nat.blt i (am_ml k) && decide (Int32.ofInt c' = am_lit v) | _ => false) = true at hro
  split at e1
  · rename_i x hx
    cases e1
    obtain ⟨w, hw, hl⟩ := A1.nth hx (by intro q; cases q)
    cases (show w = .int x from hw)
    have hsz : am_ml k = ls.size := by rw [A1.1, A2]
    split at hro
    · obtain ⟨h1, h4⟩ := am_b2 hro
      obtain ⟨h1, h3⟩ := am_b2 h1
      obtain ⟨h1, h2⟩ := am_b2 h1
      cases Nat.eq_of_beq_eq_true h1
      cases Nat.eq_of_beq_eq_true h2
      rw [am_blt, hsz] at h3
      obtain ⟨n, hn⟩ := List.getElem?_of_mem (am_all_mem hl)
      exact lv_iinc C.1 C.2.1 hd (am_all_has A1.2.1) hn (by rw [of_decide_eq_true h4]) h3 rfl fun ls' hh => G.same ⟨A1.st1 (Or.inr rfl) hh rfl, by rw [am_st1_len]; exact A2, A3, A4⟩
    · cases hro
  · cases e1
end AM2
