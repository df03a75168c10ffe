/-! fields, references in arrays, new cells, statics, switches -/
section AM4
variable {k : Nat} {s0 : State} {a0 : Array Value} {D : va_G} {J : FieldType → ClassId} {AA : Nat → Prop}
variable {p : Program} {l : Launch} {e : Env} {R : Room} {s : State} {m : MethodId} {args : Array Value} {below : List Frame} {meth : Method} {c : Code} {H : Heap} {locs : List Loc} {cells slots : Nat} {Q : State → Prop}
variable {pc len : Nat} {ls : Array Slot} {rst : List Value} {P : am_P} {lv st : List Value} {h : am_H} {r : am_S}
theorem am_cx.cls (C : am_cx k s0 a0 D J AA p R s m meth c) {ci : Nat} {q : vw_C} (hq : am_cls[ci]? = some q) : ∀ w ∈ u_ws q.1 q.2.1 q.2.2, w.before args s = true :=
  fun w hw => C.word ((am_clc_ok hq).1 w hw).1 ((am_clc_ok hq).1 w hw).2
/-- an object in the heap -/
theorem am_wr.obj {ws : va_W} (g : am_wr J P h ws) {a q ci : Nat} {fs : List Value} (ha : ¬ a < 100) (e : am_get h a = some (.inl (ci, fs))) (hq : am_ad P a = some q) : ∃ fs', ws[am_ps h a]? = some (q, .inr (ci, fs')) ∧ am_vs P fs fs' := by
  obtain ⟨q', y, g1, g2, g3, -⟩ := g.at ha e
  cases hq.symm.trans g1
  obtain ⟨fs', rfl, h1⟩ := g3
  exact ⟨fs', g2, h1⟩
theorem am_z0.noobj (Z : am_z0 s0 P h.1) {a ci : Nat} {fs : List Value} (e : am_get h a = some (.inl (ci, fs))) : ¬ a < 100 := by
  intro ha
  obtain ⟨q, -, z⟩ := Z.1 a _ (am_get_lo e ha) ha
  exact z.elim
theorem ao_getfield {j : Nat} (C : am_cx k s0 a0 D J AA p R s m meth c) (hok : am_ok k pc (.getfield j) len = true) (A : am_at s0 D J AA s k P lv st h ls rst H locs) (e1 : am_o1 k (.getfield j) (pc + len) lv st h = some r) (G : am_go s0 D J AA p l e R s m args below meth c k P cells slots h Q r) : W p l e R s m args below meth c H locs cells slots Q (F0 m pc ls rst) := by
  obtain ⟨r0, hd, hro⟩ := am_ok_r hok
  obtain ⟨A1, A2, A3, A4, ws, A5, A6, A7, A8⟩ := A
  change Option.map _ (match (generalizing := false) st with | .ref a :: st => (match am_get h a with | some (.inl (ci, fs)) => cond (Nat.beq ci (j / 32)) (match am_nth fs (j % 32) with | some v => some (pc + len, v :: st, h) | none => none) none | _ => none) | _ => none) = some r at e1
  split at e1
  · rename_i a st
    obtain ⟨w0, r1, rfl, hv0, B0⟩ := am_vs.c1 A3
    obtain ⟨q, hq, rfl⟩ := hv0
    split at e1
    · rename_i ci fs hg
      cases hbe : Nat.beq ci (j / 32) with
      | false => rw [hbe] at e1; cases e1
      | true => ?_
      rw [hbe] at e1
      cases Nat.eq_of_beq_eq_true hbe
      simp only [cond_true] at e1
      split at e1
      · rename_i v hv
        cases e1
        have ha := A4.noobj hg
        obtain ⟨fs', hw, hfs⟩ := A5.obj ha hg hq
        rw [am_nth_eq] at hv
        obtain ⟨w, hw1, hw2⟩ := hfs.at hv
        change (match (generalizing := false) r0 with | .getfield i => Nat.beq len 3 && (match am_cls[j / 32]? with | some q => Nat.blt (j % 32) q.2.2 && am_wt (am_ix k i) (.fieldLink (am_y k).cls i (q.2.1 (j % 32)).1 (q.2.1 (j % 32)).2.1 (q.2.1 (j % 32)).2.2.1) | none => false) | _ => false) = true at hro
        split at hro
        · obtain ⟨h1, h2⟩ := am_b2 hro
          cases Nat.eq_of_beq_eq_true h1
          split at h2
          · rename_i qc hqc
            obtain ⟨h2, h3⟩ := am_b2 h2
            rw [am_blt] at h2
            obtain ⟨nm, T, N⟩ := qc
            exact va_get C.1 C.2.1 (C.cls hqc) (fun _ z => z) C.2.2.2.1 C.K A6 (am_ps h a) hw hqc (j % 32) h2 (C.word (am_wt_mem h3) rfl) (fun _ z => z) hw1 hd (G.same ⟨A1, A2, ⟨hw2, B0⟩, A4, ws, A5, A6, A7, A8⟩)
          · cases h2
        · cases hro
      · cases e1
    · cases e1
  · cases e1
theorem am_fit_ok {ty : FieldType} {v w : Value} (hf : am_fit ty v = true) (hv : am_vr P v w) : narrow ty w = w ∧ fits ty w = true := by
  unfold am_fit at hf
  split at hf
  · cases (show w = _ from hv); exact ⟨rfl, rfl⟩
  · cases (show w = _ from hv); exact ⟨rfl, rfl⟩
  · rename_i x
    cases (show w = .int x from hv)
    have hx : x = 0 ∨ x = 1 := of_decide_eq_true hf
    rcases hx with hx | hx
    · subst hx; exact ⟨by decide, by decide⟩
    · subst hx; exact ⟨by decide, by decide⟩
  · obtain ⟨q, -, rfl⟩ := hv; exact ⟨rfl, rfl⟩
  · obtain ⟨q, -, rfl⟩ := hv; exact ⟨rfl, rfl⟩
  · cases hf
theorem ao_putfield {j : Nat} (C : am_cx k s0 a0 D J AA p R s m meth c) (hok : am_ok k pc (.putfield j) len = true) (A : am_at s0 D J AA s k P lv st h ls rst H locs) (e1 : am_o1 k (.putfield j) (pc + len) lv st h = some r) (G : am_go s0 D J AA p l e R s m args below meth c k P cells slots h Q r) : W p l e R s m args below meth c H locs cells slots Q (F0 m pc ls rst) := by
  obtain ⟨r0, hd, hro⟩ := am_ok_r hok
  obtain ⟨A1, A2, A3, A4, ws, A5, A6, A7, A8⟩ := A
  change Option.map _ (match (generalizing := false) st with | v :: .ref a :: st => (match am_get h a with | some (.inl (ci, fs)) => cond (Nat.blt a 100) none (cond (Nat.beq ci (j / 32)) (cond (Nat.blt (j % 32) fs.length) (cond (am_fit (am_ft j) v) (some (pc + len, st, am_put h a (.inl (ci, fs.set (j % 32) v)))) none) none) none) | _ => none) | _ => none) = some r at e1
  split at e1
  · rename_i v a st
    obtain ⟨w0, r1, rfl, hv0, B0⟩ := am_vs.c1 A3
    obtain ⟨w1, r2, rfl, hv1, B1⟩ := am_vs.c1 B0
    obtain ⟨q, hq, rfl⟩ := hv1
    split at e1
    · rename_i ci fs hg
      have ha := A4.noobj hg
      rw [am_nblt ha] at e1
      cases hbe : Nat.beq ci (j / 32) with
      | false => rw [hbe] at e1; cases e1
      | true => ?_
      cases hlt : Nat.blt (j % 32) fs.length with
      | false => rw [hbe, hlt] at e1; cases e1
      | true => ?_
      cases hft : am_fit (am_ft j) v with
      | false => rw [hbe, hlt, hft] at e1; cases e1
      | true => ?_
      rw [hbe, hlt, hft] at e1
      cases Nat.eq_of_beq_eq_true hbe
      cases e1
      rw [am_blt] at hlt
      obtain ⟨fs', hw, hfs⟩ := A5.obj ha hg hq
      obtain ⟨hna, hfi⟩ := am_fit_ok hft hv0
      have hj : 32 * (j / 32) + j % 32 = j := Nat.div_add_mod j 32
      change (match (generalizing := false) r0 with | .putfield i => Nat.beq len 3 && (match am_cls[j / 32]? with | some q => Nat.blt (j % 32) q.2.2 && am_wt (am_ix k i) (.fieldLink (am_y k).cls i (q.2.1 (j % 32)).1 (q.2.1 (j % 32)).2.1 (q.2.1 (j % 32)).2.2.1) && (!(q.2.1 (j % 32)).2.2.2 || (decide ((am_y k).name = "<init>") && decide ((q.2.1 (j % 32)).1 = (am_y k).cls))) | none => false) | _ => false) = true at hro
      split at hro
      · obtain ⟨h1, h2⟩ := am_b2 hro
        cases Nat.eq_of_beq_eq_true h1
        split at h2
        · rename_i qc hqc
          obtain ⟨h2, h4⟩ := am_b2 h2
          obtain ⟨h2, h3⟩ := am_b2 h2
          rw [am_blt] at h2
          have O := am_clc_ok hqc
          obtain ⟨nm, T, N⟩ := qc
          have hcl := C.cls (args := args) hqc
          have hpd := (O.2.2.2.2.2.2 (j % 32) h2).1
          rw [hj] at hpd
          have hll : j % 32 < fs'.length := by rw [hfs.len]; exact hlt
          have goal : ∀ (H1 : Heap) (locs1 : List Loc), va_P D am_cls (ws.set (am_ps h a) (q, .inr (j / 32, fs'.set (j % 32) w0))) H1 → va_D AA (ws.set (am_ps h a) (q, .inr (j / 32, fs'.set (j % 32) w0))) → va_S AA s.heap H1 locs1 → W p l e R s m args below meth c H1 locs1 cells slots Q (F0 m (pc + 3) ls r2) := by
            intro H1 locs1 P1 D1 S1
            exact G.put ⟨A1, A2, B1, A4.put, _, A5.put ha hg hw ⟨_, rfl, hfs.set hv0 _⟩, P1, D1, S1⟩
          cases hfin : (T (j % 32)).2.2.2 with
          | false => exact va_put C.1 C.2.1 hcl (fun _ z => z) (fun i => am_ft (32 * (j / 32) + i)) (fun i hi => (O.2.2.2.2.2.2 i hi).1) (fun a ha b hb hab => (O.2.2.2.2.2.2 b hb).2.2 a ha hab) C.2.2.2.1 C.K A6 A7 A8 (am_ps h a) hw hqc (j % 32) h2 (C.word (am_wt_mem h3) rfl) (fun _ z => z) hfin hpd hna hfi hll hd goal
          | true =>
            rw [show (nm, T, N).2.1 (j % 32) = T (j % 32) from rfl, hfin] at h4
            simp only [Bool.not_true, Bool.false_or, Bool.and_eq_true, decide_eq_true_eq] at h4
            exact va_putF C.1 C.2.1 hcl (fun _ z => z) (fun i => am_ft (32 * (j / 32) + i)) (fun i hi => (O.2.2.2.2.2.2 i hi).1) (fun a ha b hb hab => (O.2.2.2.2.2.2 b hb).2.2 a ha hab) C.2.2.2.1 C.K A6 A7 A8 (am_ps h a) hw hqc (j % 32) h2 (C.word (am_wt_mem h3) rfl) (fun _ z => z) hfin (C.2.2.2.2.2.2.2.1.trans h4.1) h4.2 hpd hna hfi hll hd goal
        · cases h2
      · cases hro
    · cases e1
  · cases e1
end AM4
