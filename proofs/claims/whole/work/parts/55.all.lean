theorem am_cnd {α : Type} {b : Bool} {x : Option α} {r : α} (h : cond b x none = some r) : b = true ∧ x = some r := by
  cases b
  · cases h
  · exact ⟨rfl, h⟩
theorem am_cnd2 {α : Type} {b : Bool} {x : Option α} {r : α} (h : cond b none x = some r) : b = false ∧ x = some r := by
  cases b
  · exact ⟨rfl, h⟩
  · cases h
theorem am_cnd3 {α : Type} {b : Bool} {x y r : α} (h : cond b (some x) (some y) = some r) : x = r ∨ y = r := by
  cases b
  · exact Or.inr (Option.some.inj h)
  · exact Or.inl (Option.some.inj h)
/-- cells and slots made are not fewer -/
def am_up (h h' : am_H) : Prop := h.2.2.2.1 ≤ h'.2.2.2.1 ∧ h.2.2.2.2 ≤ h'.2.2.2.2
theorem am_up.rf (h : am_H) : am_up h h := ⟨Nat.le_refl _, Nat.le_refl _⟩
theorem am_up.tr {a b c : am_H} (h : am_up a b) (g : am_up b c) : am_up a c := ⟨Nat.le_trans h.1 g.1, Nat.le_trans h.2 g.2⟩
theorem am_up.put (h : am_H) (a : Nat) (c : am_C) : am_up h (am_put h a c) := by
  unfold am_up
  rw [am_put_n]
  exact ⟨Nat.le_refl _, Nat.le_refl _⟩
theorem am_up.new {h h' : am_H} {m : Bool} {c : am_C} {n a : Nat} (e : am_new h m c n = some (a, h')) : am_up h h' := by
  unfold am_new at e
  cases m with
  | true => cases e; exact ⟨Nat.le_succ _, Nat.le_add_right _ _⟩
  | false =>
    simp only at e
    split at e
    · obtain ⟨-, e⟩ := am_cnd e
      cases e
      exact ⟨Nat.le_succ _, Nat.le_add_right _ _⟩
    · cases e
theorem am_up.sw {x : Int32} {st : List Value} {h : am_H} {d : Nat} {r : Nat × List Value × am_H} : ∀ (ts : List Int) (v : Int), am_sw x (fun t => some (t, st, h)) d v ts = some r → am_up h r.2.2
  | [], _, e => by cases e; exact am_up.rf _
  | t :: ts, v, e => by
    unfold am_sw at e
    cases hb : decide (x = am_lit v) with
    | true => rw [hb] at e; cases e; exact am_up.rf _
    | false => rw [hb] at e; exact am_up.sw ts _ e
theorem am_up.lw {x : Int32} {st : List Value} {h : am_H} {d : Nat} {r : Nat × List Value × am_H} : ∀ (ts : List (Int × Int)), am_lw x (fun t => some (t, st, h)) d ts = some r → am_up h r.2.2
  | [], e => by cases e; exact am_up.rf _
  | t :: ts, e => by
    unfold am_lw at e
    cases hb : decide (x = am_lit t.1) with
    | true => rw [hb] at e; cases e; exact am_up.rf _
    | false => rw [hb] at e; exact am_up.lw ts e
theorem am_up.mapn {h : am_H} {m : Bool} {c : am_C} {n nx : Nat} {st : List Value} {r : Nat × List Value × am_H} (e : (am_new h m c n).map (fun r => (nx, Value.ref r.1 :: st, r.2)) = some r) : am_up h r.2.2 := by
  cases hx : am_new h m c n with
  | none => rw [hx] at e; cases e
  | some q =>
    obtain ⟨a, h'⟩ := q
    rw [hx] at e
    cases e
    exact am_up.new hx
theorem am_o2_up {k : Nat} {ins : Instr} {nx : Nat} {st : List Value} {h : am_H} {r : Nat × List Value × am_H} (e : am_o2 k ins nx st h = some r) : am_up h r.2.2 := by
  unfold am_o2 at e
  split at e
  all_goals first
    | (cases e; exact am_up.rf _)
    | (split at e
       all_goals first
         | (cases e; exact am_up.rf _)
         | (cases e; done)
         | exact am_up.sw _ _ e
         | exact am_up.lw _ e
         | (obtain ⟨-, e⟩ := am_cnd e; first | (cases e; exact am_up.rf _) | exact am_up.mapn e)
         | (obtain ⟨-, e⟩ := am_cnd2 e; cases e; exact am_up.rf _)
         | (rcases am_cnd3 e with e | e <;> (subst e; exact am_up.rf _))
         | (split at e
            all_goals first
              | (cases e; exact am_up.rf _)
              | (cases e; done)
              | (obtain ⟨-, e⟩ := am_cnd e; first | (cases e; exact am_up.rf _) | (obtain ⟨-, e⟩ := am_cnd e; cases e; exact am_up.rf _) | (split at e; (cases e; exact am_up.rf _); cases e))
              | (obtain ⟨-, e⟩ := am_cnd2 e; obtain ⟨-, e⟩ := am_cnd e; first | (cases e; exact am_up.put _ _ _) | (obtain ⟨-, e⟩ := am_cnd e; obtain ⟨-, e⟩ := am_cnd e; cases e; exact am_up.put _ _ _))
              | (split at e
                 all_goals first
                   | (cases e; done)
                   | (obtain ⟨-, e⟩ := am_cnd2 e; obtain ⟨-, e⟩ := am_cnd2 e; obtain ⟨-, e⟩ := am_cnd e; obtain ⟨-, e⟩ := am_cnd e; cases e; exact am_up.put _ _ _))))
    | exact am_up.mapn e
    | (cases e; done)
theorem am_o1_up {k : Nat} {ins : Instr} {nx : Nat} {lv st : List Value} {h : am_H} {r : am_S} (e : am_o1 k ins nx lv st h = some r) : am_up h r.2.2.2 := by
  unfold am_o1 at e
  split at e
  all_goals first
    | (split at e
       all_goals first | (cases e; exact am_up.rf _) | (cases e; done))
    | (obtain ⟨q, hq, rfl⟩ := Option.map_eq_some_iff.mp e
       exact am_o2_up hq)
section AM14
variable {k : Nat} {s0 : State} {a0 : Array Value} {D : va_G} {J : FieldType → ClassId} {AA : Nat → Prop}
variable {p : Program} {l : Launch} {e : Env} {R : Room} {s : State} {m : MethodId} {args : Array Value} {below : List Frame} {meth : Method} {c : Code} {H : Heap} {locs : List Loc} {cells slots : Nat} {Q : State → Prop}
variable {pc len : Nat} {ls : Array Slot} {rst : List Value} {P : am_P} {lv st : List Value} {h : am_H} {r : am_S}
theorem am_o1_ok {ins : Instr} (C : am_cx k s0 a0 D J AA p R s m meth c) (hok : am_ok k pc ins len = true) (A : am_at s0 D J AA s k P lv st h ls rst H locs) (e1 : am_o1 k ins (pc + len) lv st h = some r) (hR : cells + (r.2.2.2.2.2.2.1 - h.2.2.2.1) ≤ R.cells ∧ slots + (r.2.2.2.2.2.2.2 - h.2.2.2.2) ≤ R.slots) (hRf : 10 ≤ R.frames) (hRl : 200 ≤ R.locals) (G : am_go s0 D J AA p l e R s m args below meth c k P cells slots h Q r) : W p l e R s m args below meth c H locs cells slots Q (F0 m pc ls rst) := by
  cases ins
  case iadd => exact ao_iadd C hok A e1 G
  case isub => exact ao_isub C hok A e1 G
  case imul => exact ao_imul C hok A e1 G
  case iand => exact ao_iand C hok A e1 G
  case ior => exact ao_ior C hok A e1 G
  case ixor => exact ao_ixor C hok A e1 G
  case ladd => exact ao_ladd C hok A e1 G
  case lsub => exact ao_lsub C hok A e1 G
  case lmul => exact ao_lmul C hok A e1 G
  case land => exact ao_land C hok A e1 G
  case lor => exact ao_lor C hok A e1 G
  case lxor => exact ao_lxor C hok A e1 G
  case ishl => exact ao_ishl C hok A e1 G
  case ishr => exact ao_ishr C hok A e1 G
  case iushr => exact ao_iushr C hok A e1 G
  case lshl => exact ao_lshl C hok A e1 G
  case lshr => exact ao_lshr C hok A e1 G
  case lushr => exact ao_lushr C hok A e1 G
  case ineg => exact ao_ineg C hok A e1 G
  case lneg => exact ao_lneg C hok A e1 G
  case i2l => exact ao_i2l C hok A e1 G
  case l2i => exact ao_l2i C hok A e1 G
  case i2c => exact ao_i2c C hok A e1 G
  case lcmp => exact ao_lcmp C hok A e1 G
  case aconst_null => exact ao_aconst_null C hok A e1 G
  case idiv => exact ao_idiv C hok A e1 G
  case irem => exact ao_irem C hok A e1 G
  case dup => exact ao_dup C hok A e1 G
  case dup_x1 => exact ao_dup_x1 C hok A e1 G
  case dup_x2 => exact ao_dup_x2 C hok A e1 G
  case dup2 => exact ao_dup2 C hok A e1 G
  case iaload => exact ao_iaload C hok A e1 G
  case caload => exact ao_caload C hok A e1 G
  case laload => exact ao_laload C hok A e1 G
  case iastore => exact ao_iastore C hok A e1 G
  case castore => exact ao_castore C hok A e1 G
  case lastore => exact ao_lastore C hok A e1 G
  case aaload => exact ao_aaload C hok A e1 G
  case aastore => exact ao_aastore C hok A e1 G
  case arraylength => exact ao_arraylength C hok A e1 G
  case pop => exact ao_pop C hok A e1 G
  case pop2 => exact ao_pop2 C hok A e1 G
  case sipush => exact ao_sipush C hok A e1 G
  case jsr_w => exact ao_jsr_w C hok A e1 G
  case goto => exact ao_goto C hok A e1 G
  case ifCond => exact ao_ifCond C hok A e1 G
  case if_icmp => exact ao_if_icmp C hok A e1 G
  case iload => exact ao_iload C hok A e1 G
  case lload => exact ao_lload C hok A e1 G
  case aload => exact ao_aload C hok A e1 G
  case istore => exact ao_istore C hok A e1 G
  case lstore => exact ao_lstore C hok A e1 G
  case astore => exact ao_astore C hok A e1 G
  case iinc => exact ao_iinc C hok A e1 G
  case getfield => exact ao_getfield C hok A e1 G
  case putfield => exact ao_putfield C hok A e1 G
  case tableswitch => exact ao_tableswitch C hok A e1 G
  case lookupswitch => exact ao_lookupswitch C hok A e1 G
  case getstatic => exact ao_getstatic C hok A e1 G
  case new => exact ao_new C hok A e1 hR G
  case newarray => exact ao_newarray C hok A e1 hR am_w_ai G
  case anewarray => exact ao_anewarray C hok A e1 hR G
  case f2i => exact ao_f2i C hok A e1 hR G
  case d2i => exact ao_d2i C hok A e1 hR hRf hRl G
  case f2l => exact ao_f2l C hok A e1 hR hRf hRl G
  all_goals exact nomatch (show (none : Option am_S) = some r from e1)
end AM14
