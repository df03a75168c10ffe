section AM3
variable {k : Nat} {s0 : State} {a0 : Array Value} {D : va_G} {J : FieldType → ClassId} {AA : Nat → Prop}
variable {p : Program} {l : Launch} {e : Env} {R : Room} {s : State} {m : MethodId} {args : Array Value} {below : List Frame} {meth : Method} {c : Code} {H : Heap} {locs : List Loc} {cells slots : Nat} {Q : State → Prop}
variable {pc len : Nat} {ls : Array Slot} {rst : List Value} {P : am_P} {lv st : List Value} {h : am_H} {r : am_S}
theorem am_in_vp {i : Int32} {n : Nat} (h : am_in i n = true) : vp_in i n := vp_in_iff.mpr (of_decide_eq_true h)
theorem am_cx.T (C : am_cx k s0 a0 D J AA p R s m meth c) {ty : FieldType} {t N : Nat} {f : Nat → Value} (hT : va_T ty t N f (am_A s0) s0 s0.heap) : va_T ty t N f AA s s.heap :=
  ((hT.moved C.2.2.2.2.2.1.alike).kept fun a ha _ => C.2.2.2.2.2.2.1.2.1 a ha).narrow C.2.2.2.2.2.2.1.2.2.1
theorem am_cx.Z (C : am_cx k s0 a0 D J AA p R s m meth c) {a b d : String} {v : Value} (hZ : va_Z a b d v (am_A s0) s0 s0.heap) : va_Z a b d v AA s s.heap :=
  ((hZ.moved C.2.2.2.2.2.1.alike).kept fun a ha _ => C.2.2.2.2.2.2.1.2.1 a ha).narrow C.2.2.2.2.2.2.1.2.2.1
theorem am_go.put {nx a : Nat} {c' : am_C} {lv' st' : List Value} (G : am_go s0 D J AA p l e R s m args below meth c k P cells slots h Q (nx, lv', st', am_put h a c')) {ls' : Array Slot} {rst' : List Value} (A : am_at s0 D J AA s k P lv' st' (am_put h a c') ls' rst' H locs) : W p l e R s m args below meth c H locs cells slots Q (F0 m nx ls' rst') := by
  have g := G P ls' rst' H locs (am_px.rf P) A
  simp only [am_put_n, Nat.sub_self, Nat.add_zero] at g
  exact g
theorem am_z0.put {a : Nat} {c' : am_C} (Z : am_z0 s0 P h.1) : am_z0 s0 P (am_put h a c').1 := by rw [am_put_z]; exact Z
theorem am_get_lo {a : Nat} {c' : am_C} (e : am_get h a = some c') (ha : a < 100) : am_nth h.1 a = some c' := by
  unfold am_get at e
  rw [show Nat.blt a 100 = true from by rw [am_blt]; exact ha] at e
  exact e
theorem am_ad_lo {a q : Nat} (e : am_ad P a = some q) (ha : a < 100) : P.1[a]? = some q := by
  unfold am_ad at e
  rw [show Nat.blt a 100 = true from by rw [am_blt]; exact ha] at e
  exact e
/-- an array of numbers in the heap -/
theorem am_wr.arr {ws : va_W} (g : am_wr J P h ws) {a q n : Nat} {ty : FieldType} {x : (Nat → Int32) ⊕ (Nat → Int64) ⊕ (Nat → UInt32) ⊕ (Nat → UInt64) ⊕ (Nat → Option Nat)} (hx : ∀ f, x ≠ .inr (.inr (.inr (.inr f)))) (ha : ¬ a < 100) (e : am_get h a = some (.inr (ty, n, x))) (hq : am_ad P a = some q) : ws[am_ps h a]? = some (q, .inl (J ty, n, x)) ∧ ty ∈ am_tl := by
  obtain ⟨q', y, g1, g2, g3, -⟩ := g.at ha e
  cases hq.symm.trans g1
  obtain ⟨ht, ⟨n', x'⟩, rfl, h1, h2⟩ := g3
  cases (show n' = n from h1)
  refine ⟨?_, ht⟩
  rw [g2]
  have : x' = x := by
    rcases x with f | f | f | f | f
    · exact h2
    · exact h2
    · exact h2
    · exact h2
    · exact absurd rfl (hx f)
  rw [this]
theorem ao_iaload  (C : am_cx k s0 a0 D J AA p R s m meth c) (hok : am_ok k pc (.iaload) len = true) (A : am_at s0 D J AA s k P lv st h ls rst H locs) (e1 : am_o1 k (.iaload) (pc + len) lv st h = some r) (G : am_go s0 D J AA p l e R s m args below meth c k P cells slots h Q r) : W p l e R s m args below meth c H locs cells slots Q (F0 m pc ls rst) := by
  obtain ⟨r0, hd, hro⟩ := am_ok_r hok
  obtain ⟨hn, hr⟩ : len = 1 ∧ r0 = .iaload := by
    have q : (am_smp .iaload && Nat.beq len 1 && decide (r0 = .iaload)) = true := hro
    simp only [Bool.and_eq_true, decide_eq_true_eq] at q
    exact ⟨Nat.eq_of_beq_eq_true q.1.2, q.2⟩
  subst hn; subst hr
  obtain ⟨A1, A2, A3, A4, ws, A5, A6, A7, A8⟩ := A
  change Option.map _ (match (generalizing := false) st with | .int i :: .ref a :: st => (match am_get h a with | some (.inr (.int, n, .inl f)) => cond (am_in i n) (some (pc + 1, Value.int (f i.toNatClampNeg) :: st, h)) none | _ => none) | _ => none) = some r at e1
  split at e1
  · rename_i i a st
    obtain ⟨w0, r0, rfl, hv0, B0⟩ := am_vs.c1 A3
    cases (show w0 = .int i from hv0)
    obtain ⟨w1, r1, rfl, hv1, B1⟩ := am_vs.c1 B0
    obtain ⟨q, hq, rfl⟩ := hv1
    split at e1
    · rename_i n f hg
      cases hin : am_in i n with
      | false => rw [hin] at e1; cases e1
      | true => ?_
      rw [hin] at e1
      cases e1
      by_cases ha : a < 100
      · obtain ⟨q', z1, z2⟩ := A4.1 a _ (am_get_lo hg ha) ha
        cases (am_ad_lo hq ha).symm.trans z1
        exact va_ti C.1 C.2.1 (C.T z2) A8 (am_in_vp hin) rfl hd (G.same ⟨A1, A2, ⟨rfl, B1⟩, A4, ws, A5, A6, A7, A8⟩)
      · exact va_iald C.1 C.2.1 C.K A6 (am_ps h a) 0 (A5.arr (fun _ q => by cases q) ha hg hq).1 rfl (am_in_vp hin) hd (G.same ⟨A1, A2, ⟨rfl, B1⟩, A4, ws, A5, A6, A7, A8⟩)
    · cases e1
  · cases e1
theorem ao_caload  (C : am_cx k s0 a0 D J AA p R s m meth c) (hok : am_ok k pc (.caload) len = true) (A : am_at s0 D J AA s k P lv st h ls rst H locs) (e1 : am_o1 k (.caload) (pc + len) lv st h = some r) (G : am_go s0 D J AA p l e R s m args below meth c k P cells slots h Q r) : W p l e R s m args below meth c H locs cells slots Q (F0 m pc ls rst) := by
  obtain ⟨r0, hd, hro⟩ := am_ok_r hok
  obtain ⟨hn, hr⟩ : len = 1 ∧ r0 = .caload := by
    have q : (am_smp .caload && Nat.beq len 1 && decide (r0 = .caload)) = true := hro
    simp only [Bool.and_eq_true, decide_eq_true_eq] at q
    exact ⟨Nat.eq_of_beq_eq_true q.1.2, q.2⟩
  subst hn; subst hr
  obtain ⟨A1, A2, A3, A4, ws, A5, A6, A7, A8⟩ := A
  change Option.map _ (match (generalizing := false) st with | .int i :: .ref a :: st => (match am_get h a with | some (.inr (.char, n, .inl f)) => cond (am_in i n) (some (pc + 1, Value.int (f i.toNatClampNeg) :: st, h)) none | _ => none) | _ => none) = some r at e1
  split at e1
  · rename_i i a st
    obtain ⟨w0, r0, rfl, hv0, B0⟩ := am_vs.c1 A3
    cases (show w0 = .int i from hv0)
    obtain ⟨w1, r1, rfl, hv1, B1⟩ := am_vs.c1 B0
    obtain ⟨q, hq, rfl⟩ := hv1
    split at e1
    · rename_i n f hg
      cases hin : am_in i n with
      | false => rw [hin] at e1; cases e1
      | true => ?_
      rw [hin] at e1
      cases e1
      by_cases ha : a < 100
      · obtain ⟨q', z1, z2⟩ := A4.1 a _ (am_get_lo hg ha) ha
        exact z2.elim
      · exact va_cald C.1 C.2.1 C.K A6 (am_ps h a) 1 (A5.arr (fun _ q => by cases q) ha hg hq).1 rfl (am_in_vp hin) hd (G.same ⟨A1, A2, ⟨rfl, B1⟩, A4, ws, A5, A6, A7, A8⟩)
    · cases e1
  · cases e1
theorem ao_laload  (C : am_cx k s0 a0 D J AA p R s m meth c) (hok : am_ok k pc (.laload) len = true) (A : am_at s0 D J AA s k P lv st h ls rst H locs) (e1 : am_o1 k (.laload) (pc + len) lv st h = some r) (G : am_go s0 D J AA p l e R s m args below meth c k P cells slots h Q r) : W p l e R s m args below meth c H locs cells slots Q (F0 m pc ls rst) := by
  obtain ⟨r0, hd, hro⟩ := am_ok_r hok
  obtain ⟨hn, hr⟩ : len = 1 ∧ r0 = .laload := by
    have q : (am_smp .laload && Nat.beq len 1 && decide (r0 = .laload)) = true := hro
    simp only [Bool.and_eq_true, decide_eq_true_eq] at q
    exact ⟨Nat.eq_of_beq_eq_true q.1.2, q.2⟩
  subst hn; subst hr
  obtain ⟨A1, A2, A3, A4, ws, A5, A6, A7, A8⟩ := A
  change Option.map _ (match (generalizing := false) st with | .int i :: .ref a :: st => (match am_get h a with | some (.inr (.long, n, .inr (.inl f))) => cond (am_in i n) (some (pc + 1, Value.long (f i.toNatClampNeg) :: st, h)) none | _ => none) | _ => none) = some r at e1
  split at e1
  · rename_i i a st
    obtain ⟨w0, r0, rfl, hv0, B0⟩ := am_vs.c1 A3
    cases (show w0 = .int i from hv0)
    obtain ⟨w1, r1, rfl, hv1, B1⟩ := am_vs.c1 B0
    obtain ⟨q, hq, rfl⟩ := hv1
    split at e1
    · rename_i n f hg
      cases hin : am_in i n with
      | false => rw [hin] at e1; cases e1
      | true => ?_
      rw [hin] at e1
      cases e1
      by_cases ha : a < 100
      · obtain ⟨q', z1, z2⟩ := A4.1 a _ (am_get_lo hg ha) ha
        exact z2.elim
      · exact va_lald C.1 C.2.1 C.K A6 (am_ps h a) 2 (A5.arr (fun _ q => by cases q) ha hg hq).1 rfl (am_in_vp hin) hd (G.same ⟨A1, A2, ⟨rfl, B1⟩, A4, ws, A5, A6, A7, A8⟩)
    · cases e1
  · cases e1
theorem ao_iastore  (C : am_cx k s0 a0 D J AA p R s m meth c) (hok : am_ok k pc (.iastore) len = true) (A : am_at s0 D J AA s k P lv st h ls rst H locs) (e1 : am_o1 k (.iastore) (pc + len) lv st h = some r) (G : am_go s0 D J AA p l e R s m args below meth c k P cells slots h Q r) : W p l e R s m args below meth c H locs cells slots Q (F0 m pc ls rst) := by
  obtain ⟨r0, hd, hro⟩ := am_ok_r hok
  obtain ⟨hn, hr⟩ : len = 1 ∧ r0 = .iastore := by
    have q : (am_smp .iastore && Nat.beq len 1 && decide (r0 = .iastore)) = true := hro
    simp only [Bool.and_eq_true, decide_eq_true_eq] at q
    exact ⟨Nat.eq_of_beq_eq_true q.1.2, q.2⟩
  subst hn; subst hr
  obtain ⟨A1, A2, A3, A4, ws, A5, A6, A7, A8⟩ := A
  change Option.map _ (match (generalizing := false) st with | .int x :: .int i :: .ref a :: st => (match am_get h a with | some (.inr (.int, n, .inl f)) => cond (Nat.blt a 100) none (cond (am_in i n) (some (pc + 1, st, am_put h a (.inr (.int, n, .inl (upd f i.toNatClampNeg x))))) none) | _ => none) | _ => none) = some r at e1
  split at e1
  · rename_i x i a st
    obtain ⟨w0, r0, rfl, hv0, B0⟩ := am_vs.c1 A3
    cases (show w0 = .int x from hv0)
    obtain ⟨w1, r1, rfl, hv1, B1⟩ := am_vs.c1 B0
    cases (show w1 = .int i from hv1)
    obtain ⟨w2, r2, rfl, hv2, B2⟩ := am_vs.c1 B1
    obtain ⟨q, hq, rfl⟩ := hv2
    split at e1
    · rename_i n f hg
      by_cases ha : a < 100
      · rw [show Nat.blt a 100 = true from by rw [am_blt]; exact ha] at e1
        cases e1
      · rw [am_nblt ha] at e1
        cases hin : am_in i n with
        | false => rw [hin] at e1; cases e1
        | true => ?_
        rw [hin] at e1
        cases e1
        have hw := (A5.arr (fun _ q => by cases q) ha hg hq).1
        refine va_iast C.1 C.2.1 C.K A6 A7 A8 (am_ps h a) 0 hw rfl (am_in_vp hin) hd fun H1 locs1 P1 D1 S1 => ?_
        exact G.put ⟨A1, A2, B2, A4.put, _, A5.put ha hg hw ⟨by simp [am_tl], _, rfl, rfl, rfl⟩, P1, D1, S1⟩
    · cases e1
  · cases e1
theorem ao_castore  (C : am_cx k s0 a0 D J AA p R s m meth c) (hok : am_ok k pc (.castore) len = true) (A : am_at s0 D J AA s k P lv st h ls rst H locs) (e1 : am_o1 k (.castore) (pc + len) lv st h = some r) (G : am_go s0 D J AA p l e R s m args below meth c k P cells slots h Q r) : W p l e R s m args below meth c H locs cells slots Q (F0 m pc ls rst) := by
  obtain ⟨r0, hd, hro⟩ := am_ok_r hok
  obtain ⟨hn, hr⟩ : len = 1 ∧ r0 = .castore := by
    have q : (am_smp .castore && Nat.beq len 1 && decide (r0 = .castore)) = true := hro
    simp only [Bool.and_eq_true, decide_eq_true_eq] at q
    exact ⟨Nat.eq_of_beq_eq_true q.1.2, q.2⟩
  subst hn; subst hr
  obtain ⟨A1, A2, A3, A4, ws, A5, A6, A7, A8⟩ := A
  change Option.map _ (match (generalizing := false) st with | .int x :: .int i :: .ref a :: st => (match am_get h a with | some (.inr (.char, n, .inl f)) => cond (Nat.blt a 100) none (cond (am_in i n) (some (pc + 1, st, am_put h a (.inr (.char, n, .inl (upd f i.toNatClampNeg (vp_nar .char x)))))) none) | _ => none) | _ => none) = some r at e1
  split at e1
  · rename_i x i a st
    obtain ⟨w0, r0, rfl, hv0, B0⟩ := am_vs.c1 A3
    cases (show w0 = .int x from hv0)
    obtain ⟨w1, r1, rfl, hv1, B1⟩ := am_vs.c1 B0
    cases (show w1 = .int i from hv1)
    obtain ⟨w2, r2, rfl, hv2, B2⟩ := am_vs.c1 B1
    obtain ⟨q, hq, rfl⟩ := hv2
    split at e1
    · rename_i n f hg
      by_cases ha : a < 100
      · rw [show Nat.blt a 100 = true from by rw [am_blt]; exact ha] at e1
        cases e1
      · rw [am_nblt ha] at e1
        cases hin : am_in i n with
        | false => rw [hin] at e1; cases e1
        | true => ?_
        rw [hin] at e1
        cases e1
        have hw := (A5.arr (fun _ q => by cases q) ha hg hq).1
        refine va_cast C.1 C.2.1 C.K A6 A7 A8 (am_ps h a) 1 hw rfl (am_in_vp hin) hd fun H1 locs1 P1 D1 S1 => ?_
        exact G.put ⟨A1, A2, B2, A4.put, _, A5.put ha hg hw ⟨by simp [am_tl], _, rfl, rfl, rfl⟩, P1, D1, S1⟩
    · cases e1
  · cases e1
theorem ao_lastore  (C : am_cx k s0 a0 D J AA p R s m meth c) (hok : am_ok k pc (.lastore) len = true) (A : am_at s0 D J AA s k P lv st h ls rst H locs) (e1 : am_o1 k (.lastore) (pc + len) lv st h = some r) (G : am_go s0 D J AA p l e R s m args below meth c k P cells slots h Q r) : W p l e R s m args below meth c H locs cells slots Q (F0 m pc ls rst) := by
  obtain ⟨r0, hd, hro⟩ := am_ok_r hok
  obtain ⟨hn, hr⟩ : len = 1 ∧ r0 = .lastore := by
    have q : (am_smp .lastore && Nat.beq len 1 && decide (r0 = .lastore)) = true := hro
    simp only [Bool.and_eq_true, decide_eq_true_eq] at q
    exact ⟨Nat.eq_of_beq_eq_true q.1.2, q.2⟩
  subst hn; subst hr
  obtain ⟨A1, A2, A3, A4, ws, A5, A6, A7, A8⟩ := A
  change Option.map _ (match (generalizing := false) st with | .long x :: .int i :: .ref a :: st => (match am_get h a with | some (.inr (.long, n, .inr (.inl f))) => cond (Nat.blt a 100) none (cond (am_in i n) (some (pc + 1, st, am_put h a (.inr (.long, n, .inr (.inl (vp_updL f i.toNatClampNeg x)))))) none) | _ => none) | _ => none) = some r at e1
  split at e1
  · rename_i x i a st
    obtain ⟨w0, r0, rfl, hv0, B0⟩ := am_vs.c1 A3
    cases (show w0 = .long x from hv0)
    obtain ⟨w1, r1, rfl, hv1, B1⟩ := am_vs.c1 B0
    cases (show w1 = .int i from hv1)
    obtain ⟨w2, r2, rfl, hv2, B2⟩ := am_vs.c1 B1
    obtain ⟨q, hq, rfl⟩ := hv2
    split at e1
    · rename_i n f hg
      by_cases ha : a < 100
      · rw [show Nat.blt a 100 = true from by rw [am_blt]; exact ha] at e1
        cases e1
      · rw [am_nblt ha] at e1
        cases hin : am_in i n with
        | false => rw [hin] at e1; cases e1
        | true => ?_
        rw [hin] at e1
        cases e1
        have hw := (A5.arr (fun _ q => by cases q) ha hg hq).1
        refine va_last C.1 C.2.1 C.K A6 A7 A8 (am_ps h a) 2 hw rfl (am_in_vp hin) hd fun H1 locs1 P1 D1 S1 => ?_
        exact G.put ⟨A1, A2, B2, A4.put, _, A5.put ha hg hw ⟨by simp [am_tl], _, rfl, rfl, rfl⟩, P1, D1, S1⟩
    · cases e1
  · cases e1
end AM3
