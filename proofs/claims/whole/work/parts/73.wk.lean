/-! WHAT IS KNOWN OF THE LOCALS MAY BE FORGOTTEN -/
theorem am_map_wk {lv lv' : List Value} (hl : am_le lv' lv) {x : Option (Nat × List Value × am_H)} {p : Nat} {l2' s2 : List Value} {h2 : am_H} (e : x.map (fun r => (r.1, lv', r.2.1, r.2.2)) = some (p, l2', s2, h2)) : ∃ l2, x.map (fun r => (r.1, lv, r.2.1, r.2.2)) = some (p, l2, s2, h2) ∧ am_le l2' l2 := by
  cases x with
  | none => cases e
  | some r => cases e; exact ⟨lv, rfl, hl⟩
theorem am_o1_wk {k nx : Nat} {ins : Instr} {lv lv' st : List Value} {h : am_H} (hl : am_le lv' lv) {p : Nat} {l2' s2 : List Value} {h2 : am_H} (e : am_o1 k ins nx lv' st h = some (p, l2', s2, h2)) : ∃ l2, am_o1 k ins nx lv st h = some (p, l2, s2, h2) ∧ am_le l2' l2 := by
  cases ins
  case iload i =>
    simp only [am_o1] at e ⊢
    split at e
    · rename_i x hx
      cases e
      rcases am_le_nth hl hx with q | q
      · cases q
      · rw [q]; exact ⟨_, rfl, hl⟩
    · cases e
  case lload i =>
    simp only [am_o1] at e ⊢
    split at e
    · rename_i x hx
      cases e
      rcases am_le_nth hl hx with q | q
      · cases q
      · rw [q]; exact ⟨_, rfl, hl⟩
    · cases e
  case aload i =>
    simp only [am_o1] at e ⊢
    split at e
    · rename_i x hx
      cases e
      rcases am_le_nth hl hx with q | q
      · cases q
      · rw [q]; exact ⟨_, rfl, hl⟩
    · cases e
  case istore i =>
    simp only [am_o1] at e ⊢
    split at e
    · cases e
      exact ⟨_, rfl, am_le_st1 i _ hl⟩
    · cases e
  case lstore i =>
    simp only [am_o1] at e ⊢
    split at e
    · cases e
      exact ⟨_, rfl, am_le_st2 i _ hl⟩
    · cases e
  case astore i =>
    simp only [am_o1] at e ⊢
    split at e
    · cases e
      exact ⟨_, rfl, am_le_st1 i _ hl⟩
    · cases e
  case iinc i c =>
    simp only [am_o1] at e ⊢
    split at e
    · rename_i x hx
      cases e
      rcases am_le_nth hl hx with q | q
      · cases q
      · rw [q]; exact ⟨_, rfl, am_le_st1 i _ hl⟩
    · cases e
  all_goals (simp only [am_o1] at e ⊢; exact am_map_wk hl e)
theorem am_bd_wk {k nx : Nat} {ins : Instr} {kk kk' : am_S → Option am_O} {lv lv' st : List Value} {h : am_H} {o : am_O} (hkk : ∀ pc lv lv' st h, am_le lv' lv → kk (pc, lv', st, h) = some o → kk' (pc, lv, st, h) = some o) (hl : am_le lv' lv) (e : (am_o1 k ins nx lv' st h).bind kk = some o) : (am_o1 k ins nx lv st h).bind kk' = some o := by
  obtain ⟨⟨p, l2', s2, h2⟩, h3, h4⟩ := Option.bind_eq_some_iff.mp e
  obtain ⟨l2, h5, h6⟩ := am_o1_wk hl h3
  exact Option.bind_eq_some_iff.mpr ⟨_, h5, hkk _ _ _ _ _ h6 h4⟩
theorem am_stp_wk {call : Nat → List Value → am_H → Option am_O} {k : Nat} {kk kk' : am_S → Option am_O} {o : am_O} (hkk : ∀ pc lv lv' st h, am_le lv' lv → kk (pc, lv', st, h) = some o → kk' (pc, lv, st, h) = some o) {pc : Nat} {lv lv' st : List Value} {h : am_H} (hl : am_le lv' lv) (e : am_stp call k kk (pc, lv', st, h) = some o) : am_stp call k kk' (pc, lv, st, h) = some o := by
  unfold am_stp at e ⊢
  cases hcd : am_cd k pc with
  | none => simp only [hcd] at e; cases e
  | some q =>
    obtain ⟨ins, len⟩ := q
    simp only [hcd] at e ⊢
    cases ins
    case invokestatic j =>
      simp only at e ⊢
      cases hp : am_pop (am_np j) [] st with
      | none => simp only [hp] at e; cases e
      | some q =>
        obtain ⟨as, st'⟩ := q
        simp only [hp] at e ⊢
        obtain ⟨hw, e⟩ := am_cnd e
        rw [hw, cond_true]
        cases hc : call j as h with
        | none => simp only [hc] at e; cases e
        | some r =>
          obtain ⟨r, h'⟩ := r
          simp only [hc] at e ⊢
          cases r with
          | inl v =>
            cases v with
            | none => exact hkk _ _ _ _ _ hl e
            | some v => exact hkk _ _ _ _ _ hl e
          | inr x =>
            simp only at e ⊢
            cases hh : am_hd k pc x with
            | none => simp only [hh] at e ⊢; exact e
            | some q =>
              obtain ⟨t, i⟩ := q
              simp only [hh] at e ⊢
              exact hkk _ _ _ _ _ (am_le_st1 i _ hl) e
    case checkcast x => exact e
    case ireturn => exact e
    case lreturn => exact e
    case areturn => exact e
    case return_ => exact e
    all_goals exact am_bd_wk hkk hl e
theorem am_rn_wk {call : Nat → List Value → am_H → Option am_O} {k : Nat} {o : am_O} : ∀ (n pc : Nat) (lv lv' st : List Value) (h : am_H), am_le lv' lv → am_rn call k n (pc, lv', st, h) = some o → am_rn call k n (pc, lv, st, h) = some o
  | 0, _, _, _, _, _, _, e => by cases e
  | n + 1, _, _, _, _, _, hl, e => am_stp_wk (kk := am_rn call k n) (fun pc lv lv' st h hl e => am_rn_wk n pc lv lv' st h hl e) hl e
theorem am_ev.wk {D k pc : Nat} {lv lv' st : List Value} {h : am_H} {o : am_O} (hl : am_le lv' lv) (hk : am_ev D k (pc, lv', st, h) o) : am_ev D k (pc, lv, st, h) o := by
  obtain ⟨N, hN⟩ := hk
  exact ⟨N, fun d n m hd hn hm => am_rn_wk n pc lv lv' st h hl (hN d n m hd hn hm)⟩
/-- what a call comes to: answered, or thrown -/
def am_out (r : Option Value ⊕ Nat) (h : am_H) : am_O := match r with
  | .inl v => (.inl v, h)
  | .inr e => (.inr e, h.1, h.2.1, h.2.2.1, h.2.2.2.1 + 1, h.2.2.2.2 + 6)
theorem am_ups {α : Type} (f : Nat → α) (k : Nat) : va_up f k (f k) = f := by
  funext j
  unfold va_up
  split
  · rename_i h; rw [h]
  · rfl
