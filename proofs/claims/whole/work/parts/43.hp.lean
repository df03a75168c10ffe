/-! cells that are written and made -/
theorem am_put_z (h : am_H) (a : Nat) (c : am_C) : (am_put h a c).1 = h.1 := by
  unfold am_put; cases Nat.blt a 1000 <;> rfl
theorem am_put_n (h : am_H) (a : Nat) (c : am_C) : (am_put h a c).2.2.2 = h.2.2.2 := by
  unfold am_put; cases Nat.blt a 1000 <;> rfl
theorem am_nblt {a b : Nat} (h : ¬ a < b) : Nat.blt a b = false := by
  cases hb : Nat.blt a b with
  | true => rw [am_blt] at hb; exact absurd hb h
  | false => rfl
theorem am_wr.put {J : FieldType → ClassId} {P : am_P} {h : am_H} {ws : va_W} (g : am_wr J P h ws) {a q : Nat} {c c' : am_C} {x x' : va_E} (ha : ¬ a < 100) (e : am_get h a = some c) (hq : ws[am_ps h a]? = some (q, x)) (hc : am_cr J P c' x') :
    am_wr J P (am_put h a c') (ws.set (am_ps h a) (q, x')) := by
  obtain ⟨g1, g2, g3, g4⟩ := g
  have hfl : (am_put h a c').2.1.length = h.2.1.length ∧ (am_put h a c').2.2.1.length = h.2.2.1.length ∧ am_fl (am_put h a c') = (am_fl h).set (am_ps h a) c' := by
    unfold am_get at e
    rw [am_nblt ha] at e
    unfold am_put am_fl am_ps
    cases hb : Nat.blt a 1000 with
    | true =>
      rw [hb] at e
      simp only [cond_true, cond_false, am_nth_eq] at e ⊢
      have hl := (List.getElem?_eq_some_iff.mp e).1
      refine ⟨by simp, trivial, ?_⟩
      rw [List.set_append, if_pos hl]
    | false =>
      rw [hb] at e
      simp only [cond_false] at e ⊢
      refine ⟨trivial, by simp, ?_⟩
      rw [List.set_append, if_neg (by omega), Nat.add_sub_cancel_left]
  refine ⟨g1.trans hfl.1.symm, g2.trans hfl.2.1.symm, ?_, fun i d hd => ?_⟩
  · rw [List.map_set, ← g3]
    apply List.ext_getElem?
    intro j
    by_cases hj : am_ps h a = j
    · subst hj
      rw [List.getElem?_set_self', List.getElem?_map, hq]
      rfl
    · rw [List.getElem?_set_ne hj]
  · rw [hfl.2.2] at hd
    by_cases hj : am_ps h a = i
    · subst hj
      rw [List.getElem?_set_self'] at hd
      cases hz : (am_fl h)[am_ps h a]? with
      | none => rw [hz] at hd; cases hd
      | some z =>
        rw [hz] at hd
        cases hd
        refine ⟨(q, x'), ?_, hc⟩
        rw [List.getElem?_set_self', hq]
        rfl
    · rw [List.getElem?_set_ne hj] at hd
      obtain ⟨y, y1, y2⟩ := g4 i d hd
      exact ⟨y, by rw [List.getElem?_set_ne hj]; exact y1, y2⟩
/-- a new cell's place, and the addresses behind it -/
def am_pn (m : Bool) (P : am_P) (q : Nat) : am_P := match m with
  | true => (P.1, P.2.1, P.2.2 ++ [q])
  | false => (P.1, P.2.1 ++ [q], P.2.2)
theorem am_pn_px (m : Bool) (P : am_P) (q : Nat) : am_px P (am_pn m P q) := by
  cases m
  · exact ⟨rfl, ⟨[q], rfl⟩, ⟨[], by simp [am_pn]⟩⟩
  · exact ⟨rfl, ⟨[], by simp [am_pn]⟩, ⟨[q], rfl⟩⟩
theorem am_wr.new {J : FieldType → ClassId} {P : am_P} {h h' : am_H} {ws : va_W} (g : am_wr J P h ws) {m : Bool} {c : am_C} {n a q : Nat} {x : va_E} (e : am_new h m c n = some (a, h')) (hc : am_cr J (am_pn m P q) c x) :
    am_wr J (am_pn m P q) h' (ws ++ [(q, x)]) ∧ am_ad (am_pn m P q) a = some q ∧ h'.1 = h.1 ∧ h'.2.2.2.1 = h.2.2.2.1 + 1 ∧ h'.2.2.2.2 = h.2.2.2.2 + n := by
  obtain ⟨g1, g2, g3, g4⟩ := g
  have hlen : ws.length = (am_fl h).length := by
    have := congrArg List.length g3
    simp only [List.length_map, List.length_append] at this
    simp only [am_fl, List.length_append]
    omega
  have cells : ∀ (h' : am_H), am_fl h' = am_fl h ++ [c] → ∀ (i : Nat) (d : am_C), (am_fl h')[i]? = some d → ∃ y : Nat × va_E, (ws ++ [(q, x)])[i]? = some y ∧ am_cr J (am_pn m P q) d y.2 := by
    intro h' hf i d hd
    rw [hf] at hd
    by_cases hi : i < (am_fl h).length
    · rw [List.getElem?_append_left hi] at hd
      obtain ⟨y, y1, y2⟩ := g4 i d hd
      exact ⟨y, am_app y1, y2.px (am_pn_px m P q)⟩
    · rw [List.getElem?_append_right (by omega)] at hd
      have hz : i - (am_fl h).length < 1 := (List.getElem?_eq_some_iff.mp hd).1
      rw [show i - (am_fl h).length = 0 by omega] at hd
      cases hd
      refine ⟨(q, x), ?_, hc⟩
      rw [List.getElem?_append_right (by omega), show i - ws.length = 0 by omega]
      rfl
  cases m with
  | true =>
    cases e
    refine ⟨⟨g1, by simp [am_pn, g2], by simp [am_pn, g3], cells _ (by simp [am_fl])⟩, ?_, rfl, rfl, rfl⟩
    unfold am_ad am_pn
    rw [am_nblt (by omega), am_nblt (by omega)]
    simp only [cond_false]
    rw [show 1000 + h.2.2.1.length - 1000 = P.2.2.length by omega]
    simp
  | false =>
    unfold am_new at e
    simp only at e
    split at e
    · rename_i hm
      cases hbb : Nat.blt h.2.1.length 900 with
      | false => rw [hbb] at e; cases e
      | true => ?_
      have hb : h.2.1.length < 900 := by rw [← am_blt]; exact hbb
      rw [hbb] at e
      cases e
      have hm2 : P.2.2 = [] := List.eq_nil_of_length_eq_zero (by rw [g2, hm]; rfl)
      refine ⟨⟨by simp [am_pn, g1], by simp [am_pn, hm2], by simp [am_pn, g3, hm2], cells _ (by simp [am_fl, hm])⟩, ?_, rfl, rfl, rfl⟩
      unfold am_ad am_pn
      rw [am_nblt (by omega), show Nat.blt (100 + h.2.1.length) 1000 = true from by rw [am_blt]; omega]
      simp only [cond_false, cond_true]
      rw [show 100 + h.2.1.length - 100 = P.2.1.length by omega]
      simp
    · cases e
/-- no reference -/
def am_pla (v : Value) : Bool := match v with
  | .int _ => true
  | .long _ => true
  | .null => true
  | _ => false
theorem am_vs.self {P : am_P} : ∀ {l : List Value}, l.all am_pla = true → am_vs P l l
  | [], _ => trivial
  | v :: l, h => by
    simp only [List.all_cons, Bool.and_eq_true] at h
    refine ⟨?_, am_vs.self h.2⟩
    cases v with
    | int x => rfl
    | long x => rfl
    | null => rfl
    | _ => cases h.1
/-- the classes as the tables have them -/
def am_clc (ci : Nat) : Bool := match am_cls[ci]? with
  | none => true
  | some q => (u_ws q.1 q.2.1 q.2.2).all (fun w => decide (w ∈ lw_tbl) && goodWord w) && decide (Jvm.Cond.instantiable q.1 q.2.2 ∈ lw_tbl) && decide (Jvm.Cond.initialized q.1 ∈ lw_tbl) && decide (q.1 = am_nm ci) && decide ((am_df ci).length = q.2.2) && (am_df ci).all am_pla &&
    (List.range q.2.2).all (fun j => decide (parseFieldDescriptor (q.2.1 j).2.2.1 = some (am_ft (32 * ci + j))) && decide (defaultValue (am_ft (32 * ci + j)) = vp_V (am_df ci) j) && (List.range q.2.2).all (fun i => decide (i = j) || !decide ((q.2.1 i).2.1 = (q.2.1 j).2.1)))
theorem am_clc_0 : am_clc 0 = true := by decide +kernel
theorem am_clc_1 : am_clc 1 = true := by decide +kernel
theorem am_clc_2 : am_clc 2 = true := by decide +kernel
theorem am_clc_3 : am_clc 3 = true := by decide +kernel
theorem am_clc_4 : am_clc 4 = true := by decide +kernel
theorem am_clc_5 : am_clc 5 = true := by decide +kernel
theorem am_clc_6 : am_clc 6 = true := by decide +kernel
theorem am_clc_7 : am_clc 7 = true := by decide +kernel
theorem am_clc_8 : am_clc 8 = true := by decide +kernel
theorem am_clc_ok {ci : Nat} {q : vw_C} (h : am_cls[ci]? = some q) :
    (∀ w ∈ u_ws q.1 q.2.1 q.2.2, w ∈ lw_tbl ∧ goodWord w = true) ∧ Jvm.Cond.instantiable q.1 q.2.2 ∈ lw_tbl ∧ Jvm.Cond.initialized q.1 ∈ lw_tbl ∧ q.1 = am_nm ci ∧ (am_df ci).length = q.2.2 ∧ (am_df ci).all am_pla = true ∧
    ∀ j, j < q.2.2 → parseFieldDescriptor (q.2.1 j).2.2.1 = some (am_ft (32 * ci + j)) ∧ defaultValue (am_ft (32 * ci + j)) = vp_V (am_df ci) j ∧ ∀ i, i < q.2.2 → i ≠ j → (q.2.1 i).2.1 ≠ (q.2.1 j).2.1 := by
  have hl : ci < 9 := (List.getElem?_eq_some_iff.mp h).1
  have hc : am_clc ci = true := by
    match ci, hl with
    | 0, _ => exact am_clc_0
    | 1, _ => exact am_clc_1
    | 2, _ => exact am_clc_2
    | 3, _ => exact am_clc_3
    | 4, _ => exact am_clc_4
    | 5, _ => exact am_clc_5
    | 6, _ => exact am_clc_6
    | 7, _ => exact am_clc_7
    | 8, _ => exact am_clc_8
  unfold am_clc at hc
  rw [h] at hc
  simp only [Bool.and_eq_true, List.all_eq_true, decide_eq_true_eq, List.mem_range] at hc
  obtain ⟨⟨⟨⟨⟨⟨h1, h2⟩, h3⟩, h4⟩, h5⟩, h6⟩, h7⟩ := hc
  refine ⟨h1, h2, h3, h4, h5, List.all_eq_true.mpr h6, fun j hj => ⟨(h7 j hj).1.1, (h7 j hj).1.2, fun i hi hij q => ?_⟩⟩
  have := (h7 j hj).2 i hi
  simp [hij, q] at this
