/-! THE ABSTRACT MACHINE'S RUNS ARE THE REAL ONE'S -/
/-- what a step may be -/
theorem am_stp_inv {call : Nat → List Value → am_H → Option am_O} {k : Nat} {kk : am_S → Option am_O} {pc : Nat} {lv st : List Value} {h : am_H} {o : am_O} (e : am_stp call k kk (pc, lv, st, h) = some o) : ∃ ins len, am_cd k pc = some (ins, len) ∧
    ((∃ j as st' o', ins = .invokestatic j ∧ am_pop (am_np j) [] st = some (as, st') ∧ Nat.ble (am_wd st') 8 = true ∧ am_rv j as h = true ∧ call j as h = some o' ∧
        ((∃ v, o'.1 = .inl v ∧ kk (pc + len, lv, v.toList ++ st', o'.2) = some o) ∨ ∃ x, o'.1 = .inr x ∧ ((∃ t i, am_hd k pc x = some (t, i) ∧ kk (t, am_st1 lv i am_ju, [], o'.2) = some o) ∨ (am_hd k pc x = none ∧ am_nh k = true ∧ o = (.inr x, o'.2)))))
    ∨ (∃ x, ins = .checkcast x ∧ st = [] ∧ o = (.inr x, (h.1, h.2.1, h.2.2.1, h.2.2.2.1 + 1, h.2.2.2.2 + 6)))
    ∨ (∃ x, ins = .ireturn ∧ st = [.int x] ∧ o = (.inl (some (.int (am_nar (am_rt k) x))), h))
    ∨ (∃ x, ins = .lreturn ∧ st = [.long x] ∧ o = (.inl (some (.long x)), h))
    ∨ (∃ x, ins = .areturn ∧ st = [.ref x] ∧ o = (.inl (some (.ref x)), h))
    ∨ (ins = .return_ ∧ st = [] ∧ o = (.inl none, h))
    ∨ ∃ r, am_o1 k ins (pc + len) lv st h = some r ∧ kk r = some o) := by
  unfold am_stp at e
  simp only at e
  split at e
  · cases e
  · rename_i ins len hcd
    refine ⟨ins, len, hcd, ?_⟩
    split at e
    · rename_i j
      split at e
      · cases e
      · rename_i as st' hpop
        obtain ⟨hw, e⟩ := am_cnd e
        obtain ⟨hw, hrv⟩ := am_b2 hw
        split at e
        · cases e
        · rename_i v h' hcall
          exact Or.inl ⟨j, as, st', _, rfl, hpop, hw, hrv, hcall, Or.inl ⟨some v, rfl, e⟩⟩
        · rename_i h' hcall
          exact Or.inl ⟨j, as, st', _, rfl, hpop, hw, hrv, hcall, Or.inl ⟨none, rfl, e⟩⟩
        · rename_i x h' hcall
          split at e
          · rename_i t i hhd
            exact Or.inl ⟨j, as, st', _, rfl, hpop, hw, hrv, hcall, Or.inr ⟨x, rfl, Or.inl ⟨t, i, hhd, e⟩⟩⟩
          · rename_i hhd
            obtain ⟨hnh, e⟩ := am_cnd e
            exact Or.inl ⟨j, as, st', _, rfl, hpop, hw, hrv, hcall, Or.inr ⟨x, rfl, Or.inr ⟨hhd, hnh, (Option.some.inj e).symm⟩⟩⟩
    · rename_i x
      split at e
      · exact Or.inr (Or.inl ⟨x, rfl, rfl, (Option.some.inj e).symm⟩)
      · cases e
    · split at e
      · rename_i x
        exact Or.inr (Or.inr (Or.inl ⟨x, rfl, rfl, (Option.some.inj e).symm⟩))
      · cases e
    · split at e
      · rename_i x
        exact Or.inr (Or.inr (Or.inr (Or.inl ⟨x, rfl, rfl, (Option.some.inj e).symm⟩)))
      · cases e
    · split at e
      · rename_i x
        exact Or.inr (Or.inr (Or.inr (Or.inr (Or.inl ⟨x, rfl, rfl, (Option.some.inj e).symm⟩))))
      · cases e
    · split at e
      · exact Or.inr (Or.inr (Or.inr (Or.inr (Or.inr (Or.inl ⟨rfl, rfl, (Option.some.inj e).symm⟩)))))
      · cases e
    · obtain ⟨r, hr, e⟩ := Option.bind_eq_some_iff.mp e
      exact Or.inr (Or.inr (Or.inr (Or.inr (Or.inr (Or.inr ⟨r, hr, e⟩)))))
theorem am_rn_up {call : Nat → List Value → am_H → Option am_O} {k : Nat} (hc : ∀ j as h o, call j as h = some o → am_up h o.2) : ∀ (n : Nat) (pc : Nat) (lv st : List Value) (h : am_H) (o : am_O), am_rn call k n (pc, lv, st, h) = some o → am_up h o.2
  | 0, _, _, _, _, _, e => by cases e
  | n + 1, pc, lv, st, h, o, e => by
    obtain ⟨ins, len, -, hs⟩ := am_stp_inv (show am_stp call k (am_rn call k n) (pc, lv, st, h) = some o from e)
    rcases hs with ⟨j, as, st', o', -, -, -, -, h5, h6⟩ | ⟨x, -, -, rfl⟩ | ⟨x, -, -, rfl⟩ | ⟨x, -, -, rfl⟩ | ⟨x, -, -, rfl⟩ | ⟨-, -, rfl⟩ | ⟨r, h1, h2⟩
    · have u := hc _ _ _ _ h5
      rcases h6 with ⟨v, -, h7⟩ | ⟨x, -, ⟨t, i, -, h7⟩ | ⟨-, -, rfl⟩⟩
      · exact u.tr (am_rn_up hc n _ _ _ _ _ h7)
      · exact u.tr (am_rn_up hc n _ _ _ _ _ h7)
      · exact u
    · exact ⟨Nat.le_succ _, Nat.le_add_right _ _⟩
    · exact am_up.rf _
    · exact am_up.rf _
    · exact am_up.rf _
    · exact am_up.rf _
    · exact (am_o1_up h1).tr (am_rn_up hc n r.1 r.2.1 r.2.2.1 r.2.2.2 o h2)
theorem am_cl_up : ∀ (d n k : Nat) (as : List Value) (h : am_H) (o : am_O), am_cl d n k as h = some o → am_up h o.2
  | 0, _, _, _, _, _, e => by cases e
  | d + 1, n, k, as, h, o, e => am_rn_up (fun j as h o e => am_cl_up d n j as h o e) n 0 _ _ _ _ (am_cnd (show cond (Nat.ble (am_args as).length (am_ml k)) (am_rn (am_cl d n) k n (0, am_ent k as, [], h)) none = some o from e)).2
theorem am_pop_spec : ∀ (n : Nat) (acc st as st' : List Value), am_pop n acc st = some (as, st') → ∃ xs, xs.length = n ∧ as = xs.reverse ++ acc ∧ st = xs ++ st'
  | 0, acc, st, as, st', e => by cases e; exact ⟨[], rfl, rfl, rfl⟩
  | n + 1, acc, [], as, st', e => by cases e
  | n + 1, acc, v :: st, as, st', e => by
    obtain ⟨xs, h1, h2, h3⟩ := am_pop_spec n (v :: acc) st as st' e
    exact ⟨v :: xs, by simp [h1], by simp [h2], by simp [h3]⟩
theorem am_vs.rev {P : am_P} : ∀ {l k : List Value}, am_vs P l k → am_vs P l.reverse k.reverse
  | [], [], _ => trivial
  | v :: l, w :: k, ⟨a, b⟩ => by
    rw [List.reverse_cons, List.reverse_cons]
    exact (am_vs.rev b).app ⟨a, trivial⟩
  | [], _ :: _, g => g.elim
  | _ :: _, [], g => g.elim
theorem am_vs.split {P : am_P} : ∀ {l l' k : List Value}, am_vs P (l ++ l') k → ∃ a b, k = a ++ b ∧ am_vs P l a ∧ am_vs P l' b
  | [], _, k, h => ⟨[], k, rfl, trivial, h⟩
  | v :: l, l', [], h => h.elim
  | v :: l, l', w :: k, ⟨h1, h2⟩ => by
    obtain ⟨a, b, e, g1, g2⟩ := am_vs.split h2
    exact ⟨w :: a, b, by rw [e]; rfl, ⟨h1, g1⟩, g2⟩
/-- the room of a call so deep -/
def am_rm (d : Nat) (h : am_H) (o : am_O) : Room := { frames := d + 10, locals := 40 * d + 200, cells := o.2.2.2.2.1 - h.2.2.2.1, slots := o.2.2.2.2.2 - h.2.2.2.2 }
def am_Pc (s0 : State) (D : va_G) (J : FieldType → ClassId) (P : am_P) (av : List Value) (h : am_H) : Array Value → State → Prop := fun a U => a = av.toArray ∧ s0.WarmedH U.vm ∧ am_hw s0 D J P h U.heap
/-- what a call of method k comes to: its contract -/
def am_ctr (l : Launch) (s0 : State) (D : va_G) (J : FieldType → ClassId) (d k : Nat) (as : List Value) (h : am_H) (o : am_O) : Prop :=
  ∀ (P : am_P) (av : List Value), am_vs P as av → MetFree l (am_y k) (headSpec [am_cword k] (am_rm d h o)) (am_Pc s0 D J P av h) (fun _ _ _ _ _ => True) (fun _ st oc t => am_E s0 D J P h o st oc t)
