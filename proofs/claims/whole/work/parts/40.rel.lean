/-! WHAT THE ABSTRACT MACHINE'S THINGS ARE IN THE REAL ONE: places and addresses, values, locals, cells -/
/-- addresses: of what nobody writes, of the class's cells, of the others' -/
abbrev am_P : Type := List Nat × List Nat × List Nat
def am_ad (P : am_P) (a : Nat) : Option Nat := cond (Nat.blt a 100) P.1[a]? (cond (Nat.blt a 1000) P.2.1[a - 100]? P.2.2[a - 1000]?)
/-- only longer -/
def am_px (P P' : am_P) : Prop := P'.1 = P.1 ∧ (∃ x, P'.2.1 = P.2.1 ++ x) ∧ ∃ x, P'.2.2 = P.2.2 ++ x
theorem am_px.rf (P : am_P) : am_px P P := ⟨rfl, ⟨[], by simp⟩, ⟨[], by simp⟩⟩
theorem am_px.tr {P P' P'' : am_P} (h : am_px P P') (g : am_px P' P'') : am_px P P'' := by
  obtain ⟨h1, ⟨x, h2⟩, ⟨y, h3⟩⟩ := h
  obtain ⟨g1, ⟨x', g2⟩, ⟨y', g3⟩⟩ := g
  exact ⟨g1.trans h1, ⟨x ++ x', by rw [g2, h2, List.append_assoc]⟩, ⟨y ++ y', by rw [g3, h3, List.append_assoc]⟩⟩
theorem am_app {α : Type} {l x : List α} {i : Nat} {a : α} (h : l[i]? = some a) : (l ++ x)[i]? = some a := by
  rw [List.getElem?_append_left (List.getElem?_eq_some_iff.mp h).1]; exact h
theorem am_px.ad {P P' : am_P} (h : am_px P P') {a q : Nat} (g : am_ad P a = some q) : am_ad P' a = some q := by
  obtain ⟨h1, ⟨x, h2⟩, ⟨y, h3⟩⟩ := h
  unfold am_ad at g ⊢
  rw [h1, h2, h3]
  revert g
  cases Nat.blt a 100 with
  | true => exact fun g => g
  | false => cases Nat.blt a 1000 with
    | true => exact fun g => am_app g
    | false => exact fun g => am_app g
def am_vr (P : am_P) (v w : Value) : Prop := match v with
  | .ref a => ∃ q, am_ad P a = some q ∧ w = .ref q
  | .int x => w = .int x
  | .long x => w = .long x
  | .null => w = .null
  | _ => False
theorem am_vr.px {P P' : am_P} (h : am_px P P') {v w : Value} (g : am_vr P v w) : am_vr P' v w := by
  cases v with
  | ref a => obtain ⟨q, g1, g2⟩ := g; exact ⟨q, h.ad g1, g2⟩
  | _ => exact g
theorem am_vr.cat {P : am_P} {v w : Value} (g : am_vr P v w) : w.category = v.category := by
  cases v with
  | ref a => obtain ⟨q, g1, g2⟩ := g; rw [g2]; rfl
  | int x => rw [show w = _ from g]
  | long x => rw [show w = _ from g]
  | null => rw [show w = _ from g]
  | _ => exact g.elim
/-- operand stacks, arguments, fields -/
def am_vs (P : am_P) : List Value → List Value → Prop
  | [], [] => True
  | v :: l, w :: k => am_vr P v w ∧ am_vs P l k
  | _, _ => False
theorem am_vs.px {P P' : am_P} (h : am_px P P') : ∀ {l k : List Value}, am_vs P l k → am_vs P' l k
  | [], [], _ => trivial
  | _ :: _, _ :: _, ⟨a, b⟩ => ⟨a.px h, am_vs.px h b⟩
  | [], _ :: _, g => g.elim
  | _ :: _, [], g => g.elim
theorem am_vs.len {P : am_P} : ∀ {l k : List Value}, am_vs P l k → k.length = l.length
  | [], [], _ => rfl
  | _ :: _, _ :: _, ⟨_, b⟩ => by simp [am_vs.len b]
  | [], _ :: _, g => g.elim
  | _ :: _, [], g => g.elim
theorem am_vs.app {P : am_P} : ∀ {l k l' k' : List Value}, am_vs P l k → am_vs P l' k' → am_vs P (l ++ l') (k ++ k')
  | [], [], _, _, _, g => g
  | _ :: _, _ :: _, _, _, ⟨a, b⟩, g => ⟨a, am_vs.app b g⟩
  | [], _ :: _, _, _, g, _ => g.elim
  | _ :: _, [], _, _, g, _ => g.elim
theorem am_vs.at {P : am_P} : ∀ {l k : List Value} {i : Nat} {v : Value}, am_vs P l k → l[i]? = some v → ∃ w, k[i]? = some w ∧ am_vr P v w
  | [], [], _, _, _, e => by simp at e
  | a :: l, b :: k, 0, v, ⟨h, _⟩, e => by simp at e; subst e; exact ⟨b, by simp, h⟩
  | a :: l, b :: k, i + 1, v, ⟨_, t⟩, e => by
    obtain ⟨w, h1, h2⟩ := am_vs.at (i := i) t (by simpa using e)
    exact ⟨w, by simpa using h1, h2⟩
  | [], _ :: _, _, _, g, _ => g.elim
  | _ :: _, [], _, _, g, _ => g.elim
theorem am_vs.set {P : am_P} {v w : Value} (hv : am_vr P v w) : ∀ {l k : List Value} (i : Nat), am_vs P l k → am_vs P (l.set i v) (k.set i w)
  | [], [], _, _ => trivial
  | a :: l, b :: k, 0, ⟨_, t⟩ => ⟨hv, t⟩
  | a :: l, b :: k, i + 1, ⟨h, t⟩ => ⟨h, am_vs.set hv i t⟩
  | [], _ :: _, _, g => g.elim
  | _ :: _, [], _, g => g.elim
/-- the weight of a stack -/
theorem am_vs.wd {P : am_P} : ∀ {l k : List Value}, am_vs P l k → (k.map fun v => v.category).sum = am_wd l
  | [], [], _ => rfl
  | v :: l, w :: k, ⟨a, b⟩ => by
    rw [List.map_cons, List.sum_cons, am_vs.wd b, a.cat]
    cases v <;> rfl
  | [], _ :: _, g => g.elim
  | _ :: _, [], g => g.elim
/-- locals -/
def am_lr (P : am_P) (lv : List Value) (ls : Array Slot) : Prop := ls.size = lv.length ∧ lv_wf ls ∧ ∀ (i : Nat) (v : Value), lv[i]? = some v → v = am_ju ∨ ∃ w, am_vr P v w ∧ ls[i]? = some (.val w)
theorem am_lr.px {P P' : am_P} (h : am_px P P') {lv : List Value} {ls : Array Slot} (g : am_lr P lv ls) : am_lr P' lv ls :=
  ⟨g.1, g.2.1, fun i v e => (g.2.2 i v e).elim Or.inl fun ⟨w, a, b⟩ => Or.inr ⟨w, a.px h, b⟩⟩
/-- all that the locals hold -/
def am_all (ls : Array Slot) : List (Nat × Value) := (List.range ls.size).filterMap fun i => match (ls[i]? : Option Slot) with
  | some (Slot.val w) => some (i, w)
  | _ => none
theorem am_all_has {ls : Array Slot} (hw : lv_wf ls) : lv_has ls ls.size (am_all ls) := by
  refine ⟨rfl, hw, fun q hq => ?_⟩
  obtain ⟨i, -, hi⟩ := List.mem_filterMap.mp hq
  split at hi
  · rename_i w e; cases hi; exact e
  · cases hi
theorem am_all_mem {ls : Array Slot} {i : Nat} {w : Value} (h : ls[i]? = some (.val w)) : (i, w) ∈ am_all ls := by
  refine List.mem_filterMap.mpr ⟨i, List.mem_range.mpr (Array.getElem?_eq_some_iff.mp h).1, ?_⟩
  rw [h]
theorem am_tear_at : ∀ (lv : List Value) (i j : Nat) (v : Value), (am_tear lv i)[j]? = some v → v = am_ju ∨ (lv[j]? = some v ∧ ¬ (j + 1 = i ∧ v.category = 2 ∧ ∃ x, v = .long x))
  | [], i, j, v, h => by cases i <;> simp [am_tear] at h
  | a :: l, 0, j, v, h => by
    rw [am_tear_0] at h
    exact Or.inr ⟨h, by omega⟩
  | a :: l, 1, 0, v, h => by
    rw [am_tear_1] at h
    simp at h
    cases a with
    | long x => exact Or.inl h.symm
    | _ => subst h; exact Or.inr ⟨by simp, by rintro ⟨-, -, x, hx⟩; cases hx⟩
  | a :: l, 1, j + 1, v, h => by
    rw [am_tear_1] at h
    exact Or.inr ⟨by simpa using h, by omega⟩
  | a :: l, i + 2, 0, v, h => by
    rw [am_tear_2] at h
    exact Or.inr ⟨by simpa using h, by omega⟩
  | a :: l, i + 2, j + 1, v, h => by
    rw [am_tear_2] at h
    rcases am_tear_at l (i + 1) j v (by simpa using h) with q | ⟨q1, q2⟩
    · exact Or.inl q
    · exact Or.inr ⟨by simpa using q1, fun z => q2 ⟨by omega, z.2⟩⟩
theorem am_tear_len : ∀ (lv : List Value) (i : Nat), (am_tear lv i).length = lv.length
  | [], i => by cases i <;> rfl
  | a :: l, 0 => by rw [am_tear_0]
  | a :: l, 1 => by rw [am_tear_1]; rfl
  | a :: l, i + 2 => by rw [am_tear_2]; simp [am_tear_len l (i + 1)]
theorem am_st1_at {lv : List Value} {i j : Nat} {u v : Value} (h : (am_st1 lv i u)[j]? = some v) : (j = i ∧ v = u) ∨ v = am_ju ∨ (j ≠ i ∧ lv[j]? = some v ∧ ¬ (j + 1 = i ∧ v.category = 2 ∧ ∃ x, v = .long x)) := by
  unfold am_st1 at h
  by_cases hj : i = j
  · subst hj
    rw [List.getElem?_set_self'] at h
    cases hq : (am_tear lv i)[i]? with
    | none => rw [hq] at h; cases h
    | some z => rw [hq] at h; simp at h; exact Or.inl ⟨rfl, h.symm⟩
  · rw [List.getElem?_set_ne hj] at h
    rcases am_tear_at lv i j v h with q | q
    · exact Or.inr (Or.inl q)
    · exact Or.inr (Or.inr ⟨fun e => hj e.symm, q⟩)
theorem am_st1_len (lv : List Value) (i : Nat) (u : Value) : (am_st1 lv i u).length = lv.length := by simp [am_st1, am_tear_len]
theorem am_st2_len (lv : List Value) (i : Nat) (u : Value) : (am_st2 lv i u).length = lv.length := by simp [am_st2, am_tear_len]
/-- behind a store of one word -/
theorem am_lr.st1 {P : am_P} {lv : List Value} {ls ls' : Array Slot} {i : Nat} {v w : Value} (h : am_lr P lv ls) (hv : v = am_ju ∨ am_vr P v w)
    (h' : lv_has ls' ls.size ((i, w) :: (am_all ls).filter (fun q => !(q.1 == i) && !(q.1 + 1 == i && q.2.category == 2)))) (hc : v.category = 1) : am_lr P (am_st1 lv i v) ls' := by
  refine ⟨by rw [am_st1_len, h'.1]; exact h.1, h'.2.1, fun j u e => ?_⟩
  rcases am_st1_at e with ⟨e1, e2⟩ | e1 | ⟨e1, e2, e3⟩
  · subst e1; subst e2
    rcases hv with hv | hv
    · exact Or.inl hv
    · exact Or.inr ⟨w, hv, h'.2.2 (j, w) (List.mem_cons_self ..)⟩
  · exact Or.inl e1
  · rcases h.2.2 j u e2 with q | ⟨z, q1, q2⟩
    · exact Or.inl q
    · refine Or.inr ⟨z, q1, h'.2.2 (j, z) (List.mem_cons_of_mem _ (List.mem_filter.mpr ⟨am_all_mem q2, ?_⟩))⟩
      have hz := q1.cat
      by_cases k1 : j + 1 = i
      · have : ¬ z.category = 2 := by
          rw [hz]
          intro h2
          refine e3 ⟨k1, h2, ?_⟩
          cases u with
          | long x => exact ⟨x, rfl⟩
          | double x => exact q1.elim
          | _ => cases h2
        simp [e1, this]
      · simp [e1, k1]
/-- behind a store of two words -/
theorem am_st2_at {lv : List Value} {i j : Nat} {u v : Value} (h : (am_st2 lv i u)[j]? = some v) : (j = i ∧ v = u) ∨ v = am_ju ∨ (j ≠ i ∧ j ≠ i + 1 ∧ lv[j]? = some v ∧ ¬ (j + 1 = i ∧ v.category = 2 ∧ ∃ x, v = .long x)) := by
  unfold am_st2 at h
  by_cases hj : i + 1 = j
  · subst hj
    rw [List.getElem?_set_self'] at h
    cases hq : ((am_tear lv i).set i u)[i + 1]? with
    | none => rw [hq] at h; cases h
    | some z => rw [hq] at h; simp at h; exact Or.inr (Or.inl h.symm)
  · rw [List.getElem?_set_ne hj] at h
    rcases am_st1_at (lv := lv) (i := i) (u := u) h with q | q | q
    · exact Or.inl q
    · exact Or.inr (Or.inl q)
    · exact Or.inr (Or.inr ⟨q.1, fun e => hj e.symm, q.2⟩)
theorem am_lr.st2 {P : am_P} {lv : List Value} {ls ls' : Array Slot} {i : Nat} {x : Int64} (h : am_lr P lv ls)
    (h' : lv_has ls' ls.size ((i, Value.long x) :: (am_all ls).filter (fun q => !(q.1 == i) && (!(q.1 == i + 1) && !(q.1 + 1 == i && q.2.category == 2))))) : am_lr P (am_st2 lv i (.long x)) ls' := by
  refine ⟨by rw [am_st2_len, h'.1]; exact h.1, h'.2.1, fun j u e => ?_⟩
  rcases am_st2_at e with ⟨e1, e2⟩ | e1 | ⟨e1, e0, e2, e3⟩
  · subst e1; subst e2
    exact Or.inr ⟨_, rfl, h'.2.2 (j, _) (List.mem_cons_self ..)⟩
  · exact Or.inl e1
  · rcases h.2.2 j u e2 with q | ⟨z, q1, q2⟩
    · exact Or.inl q
    · refine Or.inr ⟨z, q1, h'.2.2 (j, z) (List.mem_cons_of_mem _ (List.mem_filter.mpr ⟨am_all_mem q2, ?_⟩))⟩
      have hz := q1.cat
      by_cases k1 : j + 1 = i
      · have : ¬ z.category = 2 := by
          rw [hz]
          intro h2
          refine e3 ⟨k1, h2, ?_⟩
          cases u with
          | long x => exact ⟨x, rfl⟩
          | double x => exact q1.elim
          | _ => cases h2
        simp [e1, e0, this]
      · simp [e1, e0, k1]
/-- a local is read -/
theorem am_lr.nth {P : am_P} {lv : List Value} {ls : Array Slot} (h : am_lr P lv ls) {i : Nat} {v : Value} (e : am_nth lv i = some v) (hv : v ≠ am_ju) : ∃ w, am_vr P v w ∧ ls[i]? = some (.val w) := by
  rw [am_nth_eq] at e
  exact (h.2.2 i v e).resolve_left hv
/-! cells -/
/-- the types of arrays that there are -/
def am_tl : List FieldType := [.int, .char, .long, .object "MateProblems$MoveRow"]
def am_or (P : am_P) (r r' : Option Nat) : Prop := match r with
  | none => r' = none
  | some a => ∃ q, am_ad P a = some q ∧ r' = some q
theorem am_or.px {P P' : am_P} (h : am_px P P') {v w : Option Nat} (g : am_or P v w) : am_or P' v w := by
  cases v with
  | none => exact g
  | some a => obtain ⟨q, g1, g2⟩ := g; exact ⟨q, h.ad g1, g2⟩
/-- contents of arrays -/
def am_ar (P : am_P) (a a' : vp_A) : Prop := a'.1 = a.1 ∧ match a.2 with
  | .inr (.inr (.inr (.inr f))) => ∃ f', a'.2 = .inr (.inr (.inr (.inr f'))) ∧ ∀ j, am_or P (f j) (f' j)
  | x => a'.2 = x
def am_cr (J : FieldType → ClassId) (P : am_P) (c : am_C) (e : va_E) : Prop := match c with
  | .inl o => ∃ fs, e = .inr (o.1, fs) ∧ am_vs P o.2 fs
  | .inr a => a.1 ∈ am_tl ∧ ∃ x, e = .inl (J a.1, x) ∧ am_ar P a.2 x
theorem am_ar.px {P P' : am_P} (h : am_px P P') {a a' : vp_A} (g : am_ar P a a') : am_ar P' a a' := by
  obtain ⟨n, a⟩ := a
  obtain ⟨g1, g2⟩ := g
  refine ⟨g1, ?_⟩
  rcases a with f | f | f | f | f
  · exact g2
  · exact g2
  · exact g2
  · exact g2
  · obtain ⟨f', e, hf⟩ := g2
    exact ⟨f', e, fun j => (hf j).px h⟩
theorem am_cr.px {J : FieldType → ClassId} {P P' : am_P} (h : am_px P P') {c : am_C} {e : va_E} (g : am_cr J P c e) : am_cr J P' c e := by
  rcases c with o | a
  · obtain ⟨fs, g1, g2⟩ := g
    exact ⟨fs, g1, g2.px h⟩
  · obtain ⟨g0, x, g1, g2⟩ := g
    exact ⟨g0, x, g1, g2.px h⟩
/-- all cells that are written, in the order of their addresses' list -/
def am_fl (h : am_H) : List am_C := h.2.1 ++ h.2.2.1
def am_ps (h : am_H) (a : Nat) : Nat := cond (Nat.blt a 1000) (a - 100) (h.2.1.length + (a - 1000))
def am_wr (J : FieldType → ClassId) (P : am_P) (h : am_H) (ws : va_W) : Prop :=
  P.2.1.length = h.2.1.length ∧ P.2.2.length = h.2.2.1.length ∧ ws.map (fun q => q.1) = P.2.1 ++ P.2.2 ∧ ∀ (i : Nat) (c : am_C), (am_fl h)[i]? = some c → ∃ q : Nat × va_E, ws[i]? = some q ∧ am_cr J P c q.2
theorem am_blt {a b : Nat} : (Nat.blt a b = true) = (a < b) := by simp [Nat.blt_eq]
theorem am_wr.at {J : FieldType → ClassId} {P : am_P} {h : am_H} {ws : va_W} (g : am_wr J P h ws) {a : Nat} {c : am_C} (ha : ¬ a < 100) (e : am_get h a = some c) :
    ∃ (q : Nat) (x : va_E), am_ad P a = some q ∧ ws[am_ps h a]? = some (q, x) ∧ am_cr J P c x ∧ (am_fl h)[am_ps h a]? = some c := by
  obtain ⟨g1, g2, g3, g4⟩ := g
  have h0 : Nat.blt a 100 = false := by
    cases hb : Nat.blt a 100 with
    | true => rw [am_blt] at hb; exact absurd hb ha
    | false => rfl
  have key : (am_fl h)[am_ps h a]? = some c ∧ (P.2.1 ++ P.2.2)[am_ps h a]? = am_ad P a := by
    unfold am_get at e
    unfold am_fl am_ps am_ad
    rw [h0] at e ⊢
    simp only [cond_false] at e ⊢
    cases hb : Nat.blt a 1000 with
    | true =>
      rw [hb] at e
      simp only [cond_true] at e ⊢
      rw [am_nth_eq] at e
      have hl := (List.getElem?_eq_some_iff.mp e).1
      exact ⟨am_app e, by rw [List.getElem?_append_left (by omega)]⟩
    | false =>
      rw [hb] at e
      simp only [cond_false] at e ⊢
      rw [am_nth_eq] at e
      refine ⟨by rw [List.getElem?_append_right (by omega)]; simpa using e, ?_⟩
      rw [List.getElem?_append_right (by omega)]
      rw [g1, Nat.add_sub_cancel_left]
  obtain ⟨⟨q, x⟩, k1, k2⟩ := g4 _ _ key.1
  refine ⟨q, x, ?_, k1, k2, key.1⟩
  rw [← key.2, ← g3, List.getElem?_map, k1]
  rfl
