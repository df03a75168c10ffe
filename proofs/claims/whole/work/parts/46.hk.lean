/-! switches -/
theorem am_lit_toInt {v : Int} (h1 : -1000 < v) (h2 : v < 2000) : (am_lit v).toInt = v := by
  cases v with
  | ofNat n =>
    show (nI n).toInt = _
    have : n < 2000 := by have : (n : Int) < 2000 := h2; omega
    rw [nI_toInt (by omega)]
    rfl
  | negSucc n =>
    show (-nI (n + 1)).toInt = _
    have : n + 1 < 1000 := by have : -1000 < Int.negSucc n := h1; omega
    rw [sb_negT (by omega)]
    rfl
theorem am_lit_eq {v : Int} {x : Int32} (h1 : -1000 < v) (h2 : v < 2000) : x = am_lit v ↔ x.toInt = v := by
  constructor
  · intro q; rw [q]; exact am_lit_toInt h1 h2
  · intro q; exact Int32.toInt_inj.mp (by rw [am_lit_toInt h1 h2]; exact q)
theorem am_sw_at {α : Type} {x : Int32} {kk : Nat → α} {d : Nat} : ∀ (ts : List Int) (lo : Int), -1000 < lo → lo + ts.length < 2000 →
    ((x.toInt < lo ∨ lo + ts.length ≤ x.toInt) ∧ am_sw x kk d lo ts = kk d) ∨ (¬ x.toInt < lo ∧ ∃ t, ts[(x.toInt - lo).toNat]? = some t ∧ am_sw x kk d lo ts = kk t.toNat)
  | [], lo, _, _ => Or.inl ⟨by simp; omega, rfl⟩
  | t :: ts, lo, h1, h2 => by
    simp only [List.length_cons] at h2 ⊢
    by_cases hx : x.toInt = lo
    · refine Or.inr ⟨by omega, t, by rw [hx]; simp, ?_⟩
      unfold am_sw
      rw [decide_eq_true ((am_lit_eq h1 (by omega)).mpr hx)]
      rfl
    · have hne : am_sw x kk d lo (t :: ts) = am_sw x kk d (lo + 1) ts := by
        conv => lhs; unfold am_sw
        rw [decide_eq_false (fun q => hx ((am_lit_eq h1 (by omega)).mp q))]
        rfl
      rw [hne]
      rcases am_sw_at (x := x) (kk := kk) (d := d) ts (lo + 1) (by omega) (by omega) with ⟨q1, q2⟩ | ⟨q1, u, q2, q3⟩
      · exact Or.inl ⟨by omega, q2⟩
      · refine Or.inr ⟨by omega, u, ?_, q3⟩
        rw [show (x.toInt - lo).toNat = (x.toInt - (lo + 1)).toNat + 1 by omega]
        exact q2
theorem am_lw_at {α : Type} {x : Int32} {kk : Nat → α} {d : Nat} {d' pc : Int} (hd : pc + d' = (d : Int)) : ∀ (ps qs : List (Int × Int)), (∀ q ∈ qs, -1000 < q.1 ∧ q.1 < 1000) → qs.map (fun o => (o.1, pc + o.2)) = ps.map (fun t => (t.1, (t.2.toNat : Int))) →
    ∃ t : Nat, pc + Op.lookupswitch.offset qs d' x.toInt = (t : Int) ∧ am_lw x kk d ps = kk t
  | [], [], _, _ => ⟨d, by simpa [Op.lookupswitch.offset] using hd, rfl⟩
  | [], _ :: _, _, h => by simp at h
  | _ :: _, [], _, h => by simp at h
  | t :: ps, q :: qs, hr, h => by
    simp only [List.map_cons, List.cons.injEq, Prod.mk.injEq] at h
    obtain ⟨⟨e1, e2⟩, e3⟩ := h
    have hq := hr q List.mem_cons_self
    obtain ⟨a, o⟩ := q
    by_cases hx : x.toInt = a
    · refine ⟨t.2.toNat, ?_, ?_⟩
      · rw [Op.lookupswitch.offset_cons, if_pos hx.symm]; exact e2
      · unfold am_lw
        rw [decide_eq_true ((am_lit_eq (by rw [← e1]; exact hq.1) (by rw [← e1]; have := hq.2; omega)).mpr (hx.trans e1))]
        rfl
    · obtain ⟨u, u1, u2⟩ := am_lw_at (x := x) (kk := kk) hd ps qs (fun z hz => hr z (List.mem_cons_of_mem _ hz)) e3
      refine ⟨u, ?_, ?_⟩
      · rw [Op.lookupswitch.offset_cons, if_neg (fun z => hx z.symm)]; exact u1
      · unfold am_lw
        rw [decide_eq_false (fun z => hx (((am_lit_eq (by rw [← e1]; exact hq.1) (by rw [← e1]; have := hq.2; omega)).mp z).trans e1.symm))]
        exact u2
section AM5
variable {k : Nat} {s0 : State} {a0 : Array Value} {D : va_G} {J : FieldType → ClassId} {AA : Nat → Prop}
variable {p : Program} {l : Launch} {e : Env} {R : Room} {s : State} {m : MethodId} {args : Array Value} {below : List Frame} {meth : Method} {c : Code} {H : Heap} {locs : List Loc} {cells slots : Nat} {Q : State → Prop}
variable {pc len : Nat} {ls : Array Slot} {rst : List Value} {P : am_P} {lv st : List Value} {h : am_H} {r : am_S}
theorem ao_tableswitch {d lo hi : Int} {ts : Array Int} (C : am_cx k s0 a0 D J AA p R s m meth c) (hok : am_ok k pc (.tableswitch d lo hi ts) len = true) (A : am_at s0 D J AA s k P lv st h ls rst H locs) (e1 : am_o1 k (.tableswitch d lo hi ts) (pc + len) lv st h = some r) (G : am_go s0 D J AA p l e R s m args below meth c k P cells slots h Q r) : W p l e R s m args below meth c H locs cells slots Q (F0 m pc ls rst) := by
  obtain ⟨r0, hd, hro⟩ := am_ok_r hok
  obtain ⟨A1, A2, A3, A4⟩ := A
  change Option.map _ (match (generalizing := false) st with | .int x :: st => am_sw x (fun t => some (t, st, h)) d.toNat lo ts.toList | _ => none) = some r at e1
  change (match (generalizing := false) r0 with | .tableswitch d' lo' hi' os => decide (lo = lo' ∧ hi = hi' ∧ -1000 < lo ∧ hi < 1000 ∧ hi + 1 = lo + ts.toList.length ∧ (pc : Int) + d' = (d.toNat : Int) ∧ os.toList.map (fun o => (pc : Int) + o) = ts.toList.map (fun t => (t.toNat : Int))) | _ => false) = true at hro
  split at hro
  · rename_i d' lo' hi' os
    obtain ⟨rfl, rfl, h1, h2, h3, h4, h5⟩ := of_decide_eq_true hro
    split at e1
    · rename_i x st
      obtain ⟨w0, r1, rfl, hv0, B0⟩ := am_vs.c1 A3
      cases (show w0 = .int x from hv0)
      rcases am_sw_at (x := x) (kk := fun t => some (t, st, h)) (d := d.toNat) ts.toList lo h1 (by omega) with ⟨q1, q2⟩ | ⟨q1, t, q2, q3⟩
      · rw [q2] at e1
        cases e1
        exact lv_tableOut C.1 C.2.1 hd (by omega) h4 (G.same ⟨A1, A2, B0, A4⟩)
      · rw [q3] at e1
        cases e1
        have hi2 := (List.getElem?_eq_some_iff.mp q2).1
        have h6 : (os.toList.map (fun o => (pc : Int) + o))[(x.toInt - lo).toNat]? = some (t.toNat : Int) := by rw [h5, List.getElem?_map, q2]; rfl
        rw [List.getElem?_map] at h6
        cases ho : os.toList[(x.toInt - lo).toNat]? with
        | none => rw [ho] at h6; cases h6
        | some o =>
          rw [ho] at h6
          exact lv_tableIn C.1 C.2.1 hd q1 (by omega) (off := o) (by rw [← Array.getElem?_toList]; exact ho) (Option.some.inj h6) (G.same ⟨A1, A2, B0, A4⟩)
    · cases e1
  · cases hro
theorem ao_lookupswitch {d : Int} {ps : Array (Int × Int)} (C : am_cx k s0 a0 D J AA p R s m meth c) (hok : am_ok k pc (.lookupswitch d ps) len = true) (A : am_at s0 D J AA s k P lv st h ls rst H locs) (e1 : am_o1 k (.lookupswitch d ps) (pc + len) lv st h = some r) (G : am_go s0 D J AA p l e R s m args below meth c k P cells slots h Q r) : W p l e R s m args below meth c H locs cells slots Q (F0 m pc ls rst) := by
  obtain ⟨r0, hd, hro⟩ := am_ok_r hok
  obtain ⟨A1, A2, A3, A4⟩ := A
  change Option.map _ (match (generalizing := false) st with | .int x :: st => am_lw x (fun t => some (t, st, h)) d.toNat ps.toList | _ => none) = some r at e1
  change (match (generalizing := false) r0 with | .lookupswitch d' qs => (qs.toList.zip (qs.toList.drop 1)).all (fun (a, next) => decide (a.1 < next.1)) && decide ((∀ q ∈ qs.toList, -1000 < q.1 ∧ q.1 < 1000) ∧ (pc : Int) + d' = (d.toNat : Int) ∧ qs.toList.map (fun o => (o.1, (pc : Int) + o.2)) = ps.toList.map (fun t => (t.1, (t.2.toNat : Int)))) | _ => false) = true at hro
  split at hro
  · rename_i d' qs
    obtain ⟨h1, h2⟩ := am_b2 hro
    obtain ⟨h2, h3, h4⟩ := of_decide_eq_true h2
    split at e1
    · rename_i x st
      obtain ⟨w0, r1, rfl, hv0, B0⟩ := am_vs.c1 A3
      cases (show w0 = .int x from hv0)
      obtain ⟨t, t1, t2⟩ := am_lw_at (x := x) (kk := fun t => some (t, st, h)) h3 ps.toList qs.toList h2 h4
      rw [t2] at e1
      cases e1
      exact lv_lookup C.1 C.2.1 hd h1 rfl t1 (G.same ⟨A1, A2, B0, A4⟩)
    · cases e1
  · cases hro
theorem ao_getstatic {a : Nat} (C : am_cx k s0 a0 D J AA p R s m meth c) (hok : am_ok k pc (.getstatic a) len = true) (A : am_at s0 D J AA s k P lv st h ls rst H locs) (e1 : am_o1 k (.getstatic a) (pc + len) lv st h = some r) (G : am_go s0 D J AA p l e R s m args below meth c k P cells slots h Q r) : W p l e R s m args below meth c H locs cells slots Q (F0 m pc ls rst) := by
  obtain ⟨r0, hd, hro⟩ := am_ok_r hok
  obtain ⟨A1, A2, A3, A4, ws, A5, A6, A7, A8⟩ := A
  change some (pc + len, lv, Value.ref a :: st, h) = some r at e1
  cases e1
  change (match (generalizing := false) r0 with | .getstatic i => Nat.beq len 3 && Nat.blt a 7 && Nat.blt 0 a && (am_wt (am_ix k i) (.fieldLink (am_y k).cls i (am_sp a).1 (am_sp a).2 "[I") || am_wt (am_ix k i) (.fieldLinkNest (am_y k).cls i (am_sp a).1 (am_sp a).2 "[I" "MateProblems")) | .ldc i => Nat.beq len 2 && ((Nat.beq a 7 && am_wt (am_ix k i) (.stringRef (am_y k).cls i " PNBRQK  pnbrqk")) || (Nat.beq a 8 && am_wt (am_ix k i) (.stringRef (am_y k).cls i "KQkq"))) && decide ((am_y k).cls = "MateProblems$Reader") && Nat.beq i (am_si a) | _ => false) = true at hro
  split at hro
  · rename_i i
    obtain ⟨h1, h4⟩ := am_b2 hro
    obtain ⟨h1, h3⟩ := am_b2 h1
    obtain ⟨h1, h2⟩ := am_b2 h1
    cases Nat.eq_of_beq_eq_true h1
    rw [am_blt] at h2 h3
    obtain ⟨q, z1, z2⟩ := A4.2.1 a h3 h2
    have had : am_ad P a = some q := by
      unfold am_ad
      rw [show Nat.blt a 100 = true from by rw [am_blt]; omega]
      exact z1
    rcases Bool.or_eq_true _ _ ▸ h4 with h4 | h4
    · exact va_gets C.1 C.2.1 (C.Z z2) A8 C.2.2.2.1 (C.word (am_wt_mem h4) rfl) (fun _ z => z) hd (G.same ⟨A1, A2, ⟨⟨q, had, rfl⟩, A3⟩, A4, ws, A5, A6, A7, A8⟩)
    · have hw : va_Nw (.fieldLinkNest (am_y k).cls i (am_sp a).1 (am_sp a).2 "[I" "MateProblems") s0 := va_Nw.of rfl (C.2.2.2.2.1.1 _ (am_wt_mem h4))
      exact va_getsN C.1 C.2.1 (C.Z z2) A8 C.2.2.2.1 (va_Nw.use rfl (hw.warmF C.2.2.2.2.2.1)) (fun _ z => z) hd (G.same ⟨A1, A2, ⟨⟨q, had, rfl⟩, A3⟩, A4, ws, A5, A6, A7, A8⟩)
  · rename_i i
    obtain ⟨h1, h4⟩ := am_b2 hro
    obtain ⟨h1, h3⟩ := am_b2 h1
    obtain ⟨h1, h2⟩ := am_b2 h1
    cases Nat.eq_of_beq_eq_true h1
    have hi := Nat.eq_of_beq_eq_true h4
    have hc : (am_y k).cls = "MateProblems$Reader" := of_decide_eq_true h3
    obtain ⟨q7, q8, g1, g2, g3, g4⟩ := A4.2.2
    have hown : s.vm.findClass "MateProblems$Reader" = some m.cls := hc ▸ C.2.2.2.1
    rcases Bool.or_eq_true _ _ ▸ h2 with h2 | h2
    · obtain ⟨h2, -⟩ := am_b2 h2
      cases Nat.eq_of_beq_eq_true h2
      rw [← hi] at g3
      exact va_ldcS C.1 C.2.1 hown (g3.warm C.2.2.2.2.2.1) hd (G.same ⟨A1, A2, ⟨⟨q7, g1, rfl⟩, A3⟩, A4, ws, A5, A6, A7, A8⟩)
    · obtain ⟨h2, -⟩ := am_b2 h2
      cases Nat.eq_of_beq_eq_true h2
      rw [← hi] at g4
      exact va_ldcS C.1 C.2.1 hown (g4.warm C.2.2.2.2.2.1) hd (G.same ⟨A1, A2, ⟨⟨q8, g2, rfl⟩, A3⟩, A4, ws, A5, A6, A7, A8⟩)
  · cases hro
end AM5
