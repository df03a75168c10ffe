/-! THE SAME STEPS, THE STATE IN PIECES: so that a run of known code is found at once -/
def am_k2 (k : Nat) (ins : Instr) (nx : Nat) (st : List Value) (h : am_H) (kk : Nat → List Value → am_H → Option am_O) : Option am_O :=
  match ins with
  | .sipush v => kk nx (.int (am_lit v) :: st) h
  | .jsr_w v => kk nx (.long (am_litl v) :: st) h
  | .aconst_null => kk nx (.null :: st) h
  | .getstatic a => kk nx (.ref a :: st) h
  | .goto t => kk t.toNat st h
  | .iadd => match st with | .int y :: .int x :: st => kk nx (.int (x + y) :: st) h | _ => none
  | .isub => match st with | .int y :: .int x :: st => kk nx (.int (x - y) :: st) h | _ => none
  | .imul => match st with | .int y :: .int x :: st => kk nx (.int (x * y) :: st) h | _ => none
  | .iand => match st with | .int y :: .int x :: st => kk nx (.int (x &&& y) :: st) h | _ => none
  | .ior => match st with | .int y :: .int x :: st => kk nx (.int (x ||| y) :: st) h | _ => none
  | .ixor => match st with | .int y :: .int x :: st => kk nx (.int (x ^^^ y) :: st) h | _ => none
  | .ishl => match st with | .int y :: .int x :: st => kk nx (.int (x <<< (y &&& 31)) :: st) h | _ => none
  | .ishr => match st with | .int y :: .int x :: st => kk nx (.int (x >>> (y &&& 31)) :: st) h | _ => none
  | .iushr => match st with | .int y :: .int x :: st => kk nx (.int ((x.toUInt32 >>> (y.toUInt32 &&& Int32.toUInt32 31)).toInt32) :: st) h | _ => none
  | .ladd => match st with | .long y :: .long x :: st => kk nx (.long (x + y) :: st) h | _ => none
  | .lsub => match st with | .long y :: .long x :: st => kk nx (.long (x - y) :: st) h | _ => none
  | .lmul => match st with | .long y :: .long x :: st => kk nx (.long (x * y) :: st) h | _ => none
  | .land => match st with | .long y :: .long x :: st => kk nx (.long (x &&& y) :: st) h | _ => none
  | .lor => match st with | .long y :: .long x :: st => kk nx (.long (x ||| y) :: st) h | _ => none
  | .lxor => match st with | .long y :: .long x :: st => kk nx (.long (x ^^^ y) :: st) h | _ => none
  | .lshl => match st with | .int y :: .long x :: st => kk nx (.long (am_shl x y) :: st) h | _ => none
  | .lshr => match st with | .int y :: .long x :: st => kk nx (.long (am_shr x y) :: st) h | _ => none
  | .lushr => match st with | .int y :: .long x :: st => kk nx (.long (am_ushr x y) :: st) h | _ => none
  | .ineg => match st with | .int x :: st => kk nx (.int (-x) :: st) h | _ => none
  | .lneg => match st with | .long x :: st => kk nx (.long (-x) :: st) h | _ => none
  | .i2l => match st with | .int x :: st => kk nx (.long (x.toInt64) :: st) h | _ => none
  | .l2i => match st with | .long x :: st => kk nx (.int (x.toInt32) :: st) h | _ => none
  | .i2c => match st with | .int x :: st => kk nx (.int (am_i2c x) :: st) h | _ => none
  | .f2i => match st with | .int x :: st => cond (Nat.ble (am_wd st) 8) (kk nx (.int (am_abs x) :: st) h) none | _ => none
  | .idiv => match st with | .int y :: .int x :: st => cond (decide (y = 0)) none (kk nx (.int (x / y) :: st) h) | _ => none
  | .irem => match st with | .int y :: .int x :: st => cond (decide (y = 0)) none (kk nx (.int (x - x / y * y) :: st) h) | _ => none
  | .lcmp => match st with | .long y :: .long x :: st => kk nx (.int (lg_cmp x y) :: st) h | _ => none
  | .dup => match st with | .int x :: st => kk nx (.int x :: .int x :: st) h | .ref x :: st => kk nx (.ref x :: .ref x :: st) h | _ => none
  | .pop => match st with | .int _ :: st => kk nx st h | _ => none
  | .pop2 => match st with | .ref _ :: st => cond (Nat.ble (am_wd st) 8) (kk nx st h) none | _ => none
  | .dup_x1 => match st with | .int x :: .ref y :: st => kk nx (.int x :: .ref y :: .int x :: st) h | .int x :: .int y :: st => kk nx (.int x :: .int y :: .int x :: st) h | _ => none
  | .dup_x2 => match st with | .int x :: .int y :: .ref z :: st => kk nx (.int x :: .int y :: .ref z :: .int x :: st) h | _ => none
  | .dup2 => match st with | .int x :: .ref y :: st => kk nx (.int x :: .ref y :: .int x :: .ref y :: st) h | .long x :: st => kk nx (.long x :: .long x :: st) h | _ => none
  | .ifCond c t => match st with | .int x :: st => cond (am_cond c x 0) (kk t.toNat st h) (kk nx st h) | _ => none
  | .if_icmp c t => match st with | .int y :: .int x :: st => cond (am_cond c x y) (kk t.toNat st h) (kk nx st h) | _ => none
  | .tableswitch d lo _ ts => match st with | .int x :: st => am_sw x (fun t => kk t st h) d.toNat lo ts.toList | _ => none
  | .lookupswitch d ps => match st with | .int x :: st => am_lw x (fun t => kk t st h) d.toNat ps.toList | _ => none
  | .iaload => match st with
    | .int i :: .ref a :: st => match am_get h a with | some (.inr (.int, n, .inl f)) => cond (am_in i n) (kk nx (.int (f i.toNatClampNeg) :: st) h) none | _ => none
    | _ => none
  | .caload => match st with
    | .int i :: .ref a :: st => match am_get h a with | some (.inr (.char, n, .inl f)) => cond (am_in i n) (kk nx (.int (f i.toNatClampNeg) :: st) h) none | _ => none
    | _ => none
  | .laload => match st with
    | .int i :: .ref a :: st => match am_get h a with | some (.inr (.long, n, .inr (.inl f))) => cond (am_in i n) (kk nx (.long (f i.toNatClampNeg) :: st) h) none | _ => none
    | _ => none
  | .d2i => match st with
    | .int i :: .ref a :: st => match am_get h a with | some (.inr (.byte, n, .inl f)) => cond (Nat.ble (am_wd st) 8) (cond (am_in i n) (kk nx (.int (f i.toNatClampNeg) :: st) h) none) none | _ => none
    | _ => none
  | .f2l => match st with
    | .ref a :: st => match am_get h a with | some (.inr (.byte, n, _)) => cond (Nat.ble (am_wd st) 8) (kk nx (.int (Int32.ofNat n) :: st) h) none | _ => none
    | _ => none
  | .aaload => match st with
    | .int i :: .ref a :: st => match am_get h a with | some (.inr (.object _, n, .inr (.inr (.inr (.inr f))))) => cond (am_in i n) (match f i.toNatClampNeg with | some q => kk nx (.ref q :: st) h | none => none) none | _ => none
    | _ => none
  | .iastore => match st with
    | .int x :: .int i :: .ref a :: st => match am_get h a with | some (.inr (.int, n, .inl f)) => cond (Nat.blt a 100) none (cond (am_in i n) (kk nx st (am_put h a (.inr (.int, n, .inl (upd f i.toNatClampNeg x))))) none) | _ => none
    | _ => none
  | .castore => match st with
    | .int x :: .int i :: .ref a :: st => match am_get h a with | some (.inr (.char, n, .inl f)) => cond (Nat.blt a 100) none (cond (am_in i n) (kk nx st (am_put h a (.inr (.char, n, .inl (upd f i.toNatClampNeg (vp_nar .char x)))))) none) | _ => none
    | _ => none
  | .lastore => match st with
    | .long x :: .int i :: .ref a :: st => match am_get h a with | some (.inr (.long, n, .inr (.inl f))) => cond (Nat.blt a 100) none (cond (am_in i n) (kk nx st (am_put h a (.inr (.long, n, .inr (.inl (vp_updL f i.toNatClampNeg x)))))) none) | _ => none
    | _ => none
  | .aastore => match st with
    | .ref v :: .int i :: .ref a :: st => match am_get h a with
      | some (.inr (.object C, n, .inr (.inr (.inr (.inr f))))) => match am_get h v with
        | some (.inl (ci, _)) => cond (Nat.blt a 100) none (cond (Nat.blt v 100) none (cond (decide (am_nm ci = C)) (cond (am_in i n) (kk nx st (am_put h a (.inr (.object C, n, .inr (.inr (.inr (.inr (va_up f i.toNatClampNeg (some v))))))))) none) none))
        | _ => none
      | _ => none
    | _ => none
  | .arraylength => match st with
    | .ref a :: st => match am_get h a with
      | some (.inr (.int, n, _)) => kk nx (.int (Int32.ofNat n) :: st) h
      | some (.inr (.char, n, _)) => kk nx (.int (Int32.ofNat n) :: st) h
      | some (.inr (.long, n, _)) => kk nx (.int (Int32.ofNat n) :: st) h
      | _ => none
    | _ => none
  | .getfield j => match st with
    | .ref a :: st => match am_get h a with | some (.inl (ci, fs)) => cond (Nat.beq ci (j / 32)) (match am_nth fs (j % 32) with | some v => kk nx (v :: st) h | none => none) none | _ => none
    | _ => none
  | .putfield j => match st with
    | v :: .ref a :: st => match am_get h a with | some (.inl (ci, fs)) => cond (Nat.blt a 100) none (cond (Nat.beq ci (j / 32)) (cond (Nat.blt (j % 32) fs.length) (cond (am_fit (am_ft j) v) (kk nx st (am_put h a (.inl (ci, fs.set (j % 32) v)))) none) none) none) | _ => none
    | _ => none
  | .new ci => (am_new h (am_rc ci) (.inl (ci, am_df ci)) (am_df ci).length).bind (fun r => kk nx (.ref r.1 :: st) r.2)
  | .newarray ty => match st with
    | .int n :: st => cond (decide ((ty = .int ∨ ty = .long ∨ ty = .char) ∧ 0 ≤ n.toInt ∧ n.toInt ≤ 65536)) ((am_new h (am_rg k) (am_na ty n.toNatClampNeg) n.toNatClampNeg).bind (fun r => kk nx (.ref r.1 :: st) r.2)) none
    | _ => none
  | .anewarray ci => match st with
    | .int n :: st => cond (decide (0 ≤ n.toInt ∧ n.toInt ≤ 65536)) ((am_new h (am_rg k) (.inr (.object (am_nm ci), n.toNatClampNeg, .inr (.inr (.inr (.inr (fun _ => none)))))) n.toNatClampNeg).bind (fun r => kk nx (.ref r.1 :: st) r.2)) none
    | _ => none
  | _ => none
def am_k1 (k : Nat) (ins : Instr) (nx : Nat) (lv st : List Value) (h : am_H) (kk : Nat → List Value → List Value → am_H → Option am_O) : Option am_O :=
  match ins with
  | .iload i => match am_nth lv i with | some (.int x) => kk nx lv (.int x :: st) h | _ => none
  | .lload i => match am_nth lv i with | some (.long x) => kk nx lv (.long x :: st) h | _ => none
  | .aload i => match am_nth lv i with | some (.ref x) => kk nx lv (.ref x :: st) h | _ => none
  | .istore i => match st with | .int x :: st => kk nx (am_st1 lv i (.int x)) st h | _ => none
  | .lstore i => match st with | .long x :: st => kk nx (am_st2 lv i (.long x)) st h | _ => none
  | .astore i => match st with | .ref x :: st => kk nx (am_st1 lv i (.ref x)) st h | _ => none
  | .iinc i c => match am_nth lv i with | some (.int x) => kk nx (am_st1 lv i (.int (x + am_lit c))) st h | _ => none
  | ins => am_k2 k ins nx st h (fun p => kk p lv)
def am_ks (call : Nat → List Value → am_H → Option am_O) (k : Nat) (kk : Nat → List Value → List Value → am_H → Option am_O) (pc : Nat) (lv st : List Value) (h : am_H) : Option am_O :=
  match am_cd k pc with
  | none => none
  | some (ins, len) => match ins with
    | .invokestatic _ => am_stp call k (fun s => kk s.1 s.2.1 s.2.2.1 s.2.2.2) (pc, lv, st, h)
    | .checkcast e => match st with | [] => some (.inr e, (h.1, h.2.1, h.2.2.1, h.2.2.2.1 + 1, h.2.2.2.2 + 6)) | _ => none
    | .ireturn => match st with | [.int x] => some (.inl (some (.int (am_nar (am_rt k) x))), h) | _ => none
    | .lreturn => match st with | [.long x] => some (.inl (some (.long x)), h) | _ => none
    | .areturn => match st with | [.ref x] => some (.inl (some (.ref x)), h) | _ => none
    | .return_ => match st with | [] => some (.inl none, h) | _ => none
    | ins => am_k1 k ins (pc + len) lv st h kk
def am_kw (call : Nat → List Value → am_H → Option am_O) (k : Nat) : Nat → (Nat → List Value → List Value → am_H → Option am_O) → Nat → List Value → List Value → am_H → Option am_O
  | 0, kk => kk
  | c + 1, kk => am_ks call k (am_kw call k c kk)

theorem am_cb {α β : Type} (b : Bool) (x y : Option α) (f : α → Option β) : (cond b x y).bind f = cond b (x.bind f) (y.bind f) := by cases b <;> rfl
theorem am_swb {α β : Type} (x : Int32) (g : Nat → Option α) (f : α → Option β) (d : Nat) : ∀ (ts : List Int) (v : Int), (am_sw x g d v ts).bind f = am_sw x (fun t => (g t).bind f) d v ts
  | [], _ => rfl
  | t :: ts, v => by
    unfold am_sw
    rw [am_cb, am_swb x g f d ts (v + 1)]
theorem am_lwb {α β : Type} (x : Int32) (g : Nat → Option α) (f : α → Option β) (d : Nat) : ∀ (ts : List (Int × Int)), (am_lw x g d ts).bind f = am_lw x (fun t => (g t).bind f) d ts
  | [] => rfl
  | t :: ts => by
    unfold am_lw
    rw [am_cb, am_lwb x g f d ts]
theorem am_mb {α β γ : Type} (x : Option α) (g : α → β) (f : β → Option γ) : (x.map g).bind f = x.bind (fun r => f (g r)) := by cases x <;> rfl
theorem am_k2_eq {k nx : Nat} {ins : Instr} {st : List Value} {h : am_H} {kk : Nat → List Value → am_H → Option am_O} : am_k2 k ins nx st h kk = (am_o2 k ins nx st h).bind (fun r => kk r.1 r.2.1 r.2.2) := by
  cases ins
  all_goals simp only [am_k2, am_o2, Option.bind_none, Option.bind_some]
  all_goals (repeat' split)
  all_goals (first | rfl | simp only [am_cb, am_swb, am_lwb, am_mb, Option.bind_some, Option.bind_none] | skip)
  all_goals (first | rfl | (congr 1; done) | (congr 2; done) | (exfalso; solve_by_elim; done) | (exfalso; apply_assumption; rfl; done) | (simp_all; done) | skip)
theorem am_k1_eq {k nx : Nat} {ins : Instr} {lv st : List Value} {h : am_H} {kk : Nat → List Value → List Value → am_H → Option am_O} : am_k1 k ins nx lv st h kk = (am_o1 k ins nx lv st h).bind (fun s => kk s.1 s.2.1 s.2.2.1 s.2.2.2) := by
  cases ins
  all_goals simp only [am_k1, am_o1]
  all_goals (first | (rw [am_k2_eq, am_mb]; done) | (repeat' split))
  all_goals (first | rfl | (exfalso; solve_by_elim; done) | (exfalso; apply_assumption; assumption; done) | (simp_all; done) | skip)
theorem am_ks_eq {call : Nat → List Value → am_H → Option am_O} {k pc : Nat} {lv st : List Value} {h : am_H} {kk : Nat → List Value → List Value → am_H → Option am_O} : am_ks call k kk pc lv st h = am_stp call k (fun s => kk s.1 s.2.1 s.2.2.1 s.2.2.2) (pc, lv, st, h) := by
  unfold am_ks
  cases hc : am_cd k pc with
  | none => simp only [am_stp, hc]
  | some q =>
    obtain ⟨ins, len⟩ := q
    simp only
    cases ins
    case invokestatic j => rfl
    all_goals (simp only [am_stp, hc]; try (first | rfl | exact am_k1_eq))
theorem am_kw_eq {call : Nat → List Value → am_H → Option am_O} {k : Nat} : ∀ (c : Nat) (kk : am_S → Option am_O) (pc : Nat) (lv st : List Value) (h : am_H), am_kw call k c (fun a b c d => kk (a, b, c, d)) pc lv st h = am_pw call k c kk (pc, lv, st, h)
  | 0, _, _, _, _, _ => rfl
  | c + 1, kk, pc, lv, st, h => by
    show am_ks call k (am_kw call k c (fun a b c d => kk (a, b, c, d))) pc lv st h = am_stp call k (am_pw call k c kk) (pc, lv, st, h)
    rw [am_ks_eq]
    congr 1
    funext s
    exact am_kw_eq c kk s.1 s.2.1 s.2.2.1 s.2.2.2
theorem am_ev.kf {D k pc : Nat} {lv st : List Value} {h : am_H} {o : am_O} (c : Nat) (hs : ∀ call kk, am_kw call k c kk pc lv st h = some o) : am_ev D k (pc, lv, st, h) o :=
  am_ev.fin c (fun call kk => by rw [← am_kw_eq]; exact hs _ _)
theorem am_ev.kg {D k pc pc' : Nat} {lv lv' st st' : List Value} {h h' : am_H} {o : am_O} (c : Nat) (hs : ∀ call kk, am_kw call k c kk pc lv st h = kk pc' lv' st' h') (hk : am_ev D k (pc', lv', st', h') o) : am_ev D k (pc, lv, st, h) o :=
  am_ev.go c (fun call kk => by rw [← am_kw_eq]; exact hs _ _) hk
theorem am_ev.kt {D k pc : Nat} {lv st : List Value} {h : am_H} {o : am_O} {P : Prop} [Decidable P] (c pa pb : Nat) (lv' st' : List Value) (h' : am_H) (hP : P) (hs : ∀ call kk, am_kw call k c kk pc lv st h = cond (decide P) (kk pa lv' st' h') (kk pb lv' st' h')) (hk : am_ev D k (pa, lv', st', h') o) : am_ev D k (pc, lv, st, h) o :=
  am_ev.kg c (fun call kk => by rw [hs, decide_eq_true hP]; rfl) hk
theorem am_ev.ke {D k pc : Nat} {lv st : List Value} {h : am_H} {o : am_O} {P : Prop} [Decidable P] (c pa pb : Nat) (lv' st' : List Value) (h' : am_H) (hP : ¬ P) (hs : ∀ call kk, am_kw call k c kk pc lv st h = cond (decide P) (kk pa lv' st' h') (kk pb lv' st' h')) (hk : am_ev D k (pb, lv', st', h') o) : am_ev D k (pc, lv, st, h) o :=
  am_ev.kg c (fun call kk => by rw [hs, decide_eq_false hP]; rfl) hk
theorem am_ev.kc {D k pc : Nat} {lv st : List Value} {h : am_H} {o : am_O} {b : Bool} (c pa : Nat) (lv' st' : List Value) (h' : am_H) (hb : b = true) (hs : ∀ call kk, am_kw call k c kk pc lv st h = cond b (kk pa lv' st' h') none) (hk : am_ev D k (pa, lv', st', h') o) : am_ev D k (pc, lv, st, h) o :=
  am_ev.kg c (fun call kk => by rw [hs, hb]; rfl) hk
