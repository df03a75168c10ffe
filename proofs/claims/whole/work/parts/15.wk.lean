/-! what is known of the locals may be forgotten -/
def am_le : List Value → List Value → Prop
  | [], [] => True
  | a :: l, b :: m => (a = am_ju ∨ a = b) ∧ am_le l m
  | _, _ => False
theorem am_ln : am_le [] [] := trivial
theorem am_lc {a b : Value} {l m : List Value} (h : a = am_ju ∨ a = b) (t : am_le l m) : am_le (a :: l) (b :: m) := ⟨h, t⟩
theorem am_le_nth : ∀ {l m : List Value} {i : Nat} {v : Value}, am_le l m → am_nth l i = some v → v = am_ju ∨ am_nth m i = some v
  | [], [], _, _, _, h => by cases h
  | a :: l, b :: m, 0, v, ⟨h, _⟩, e => by
    cases e
    rcases h with h | h
    · exact Or.inl h
    · exact Or.inr (by rw [h]; rfl)
  | a :: l, b :: m, i + 1, v, ⟨_, t⟩, e => am_le_nth (i := i) t e
  | [], _ :: _, _, _, h, _ => h.elim
  | _ :: _, [], _, _, h, _ => h.elim
theorem am_le_set : ∀ {l m : List Value} {i : Nat} {v : Value}, am_le l m → am_le (l.set i v) (m.set i v)
  | [], [], _, _, _ => trivial
  | a :: l, b :: m, 0, v, ⟨_, t⟩ => ⟨Or.inr rfl, t⟩
  | a :: l, b :: m, i + 1, v, ⟨h, t⟩ => ⟨h, am_le_set t⟩
  | [], _ :: _, _, _, h => h.elim
  | _ :: _, [], _, _, h => h.elim
theorem am_tear_0 (l : List Value) : am_tear l 0 = l := by
  cases l with
  | nil => rfl
  | cons a l => cases a <;> rfl
theorem am_tear_1 (a : Value) (l : List Value) : am_tear (a :: l) 1 = (match a with | .long _ => am_ju | _ => a) :: l := by
  cases a <;> simp [am_tear, am_tear_0]
theorem am_tear_2 (a : Value) (l : List Value) (n : Nat) : am_tear (a :: l) (n + 2) = a :: am_tear l (n + 1) := by
  cases a <;> simp [am_tear]
theorem am_le_tear : ∀ {l m : List Value} (i : Nat), am_le l m → am_le (am_tear l i) (am_tear m i)
  | [], [], i, _ => by cases i <;> exact trivial
  | a :: l, b :: m, 0, h => by rw [am_tear_0, am_tear_0]; exact h
  | a :: l, b :: m, 1, ⟨h, t⟩ => by
    rw [am_tear_1, am_tear_1]
    refine ⟨?_, t⟩
    rcases h with h | h
    · subst h; exact Or.inl rfl
    · subst h; exact Or.inr rfl
  | a :: l, b :: m, i + 2, ⟨h, t⟩ => by
    rw [am_tear_2, am_tear_2]
    exact ⟨h, am_le_tear (i + 1) t⟩
  | [], _ :: _, _, h => h.elim
  | _ :: _, [], _, h => h.elim
theorem am_le_st1 {l m : List Value} (i : Nat) (v : Value) (h : am_le l m) : am_le (am_st1 l i v) (am_st1 m i v) := am_le_set (am_le_tear i h)
theorem am_le_st2 {l m : List Value} (i : Nat) (v : Value) (h : am_le l m) : am_le (am_st2 l i v) (am_st2 m i v) := am_le_set (am_le_set (am_le_tear i h))
theorem am_sw_mono {α : Type} {x : Int32} {f g : Nat → Option α} {o : α} (h : ∀ t, f t = some o → g t = some o) (d : Nat) : ∀ (ts : List Int) (v : Int), am_sw x f d v ts = some o → am_sw x g d v ts = some o
  | [], _, e => h _ e
  | t :: ts, v, e => by
    unfold am_sw at e ⊢
    cases hc : decide (x = am_lit v)
    · rw [hc] at e; exact am_sw_mono h d ts (v + 1) e
    · rw [hc] at e; exact h _ e
