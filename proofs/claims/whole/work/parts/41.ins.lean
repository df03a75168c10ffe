/-! EACH INSTRUCTION DOES WHAT THE ABSTRACT MACHINE SAYS -/
/-- instructions that stand in the code as they stand in the table, of one byte -/
def am_smp (i : Instr) : Bool := match i with
  | .aconst_null | .iadd | .isub | .imul | .iand | .ior | .ixor | .ishl | .ishr | .iushr | .ladd | .lsub | .lmul | .land | .lor | .lxor | .lshl | .lshr | .lushr | .ineg | .lneg | .i2l | .l2i | .i2c | .idiv | .irem | .lcmp | .dup | .pop | .dup_x1 | .dup_x2 | .dup2 | .iaload | .caload | .laload | .aaload | .iastore | .castore | .lastore | .aastore | .arraylength => true
  | _ => false
/-- a word of the tables by its place -/
def am_wt (i : Nat) (w : Jvm.Cond) : Bool := decide (lw_tbl[i]? = some w)
theorem am_wt_mem {i : Nat} {w : Jvm.Cond} (h : am_wt i w = true) : w ∈ lw_tbl := List.mem_of_getElem? (of_decide_eq_true h)
/-- the instruction r of the code, of n bytes, is what the table has there -/
def am_okr (k pc : Nat) (ins r : Instr) (n : Nat) : Bool := match ins with
  | .sipush v => (match r with
    | .iconst x => Nat.beq n 1 && decide (Int32.ofInt x = am_lit v)
    | .bipush x => Nat.beq n 2 && decide ((Int8.ofInt x).toInt32 = am_lit v)
    | .sipush x => Nat.beq n 3 && decide ((Int16.ofInt x).toInt32 = am_lit v)
    | _ => false)
  | .jsr_w v => (match r with
    | .lconst x => Nat.beq n 1 && decide (Int64.ofNat (x : Nat) = am_litl v)
    | .ldc2_w i => Nat.beq n 3 && am_wt (am_ix k i) (.constantLong (am_y k).cls i (am_litl v))
    | _ => false)
  | .getstatic a => (match r with
    | .getstatic i => Nat.beq n 3 && Nat.blt a 7 && Nat.blt 0 a && (am_wt (am_ix k i) (.fieldLink (am_y k).cls i (am_sp a).1 (am_sp a).2 "[I") || am_wt (am_ix k i) (.fieldLinkNest (am_y k).cls i (am_sp a).1 (am_sp a).2 "[I" "MateProblems"))
    | .ldc i => Nat.beq n 2 && ((Nat.beq a 7 && am_wt (am_ix k i) (.stringRef (am_y k).cls i " PNBRQK  pnbrqk")) || (Nat.beq a 8 && am_wt (am_ix k i) (.stringRef (am_y k).cls i "KQkq"))) && decide ((am_y k).cls = "MateProblems$Reader") && Nat.beq i (am_si a)
    | _ => false)
  | .goto t => (match r with
    | .goto o => Nat.beq n 3 && decide ((pc : Int) + o = (t.toNat : Int))
    | _ => false)
  | .ifCond c t => (match r with
    | .ifCond c' o => Nat.beq n 3 && decide (c = c') && decide ((pc : Int) + o = (t.toNat : Int))
    | _ => false)
  | .if_icmp c t => (match r with
    | .if_icmp c' o => Nat.beq n 3 && decide (c = c') && decide ((pc : Int) + o = (t.toNat : Int))
    | _ => false)
  | .tableswitch d lo hi ts => (match r with
    | .tableswitch d' lo' hi' os => decide (lo = lo' ∧ hi = hi' ∧ -1000 < lo ∧ hi < 1000 ∧ hi + 1 = lo + ts.toList.length ∧ (pc : Int) + d' = (d.toNat : Int) ∧ os.toList.map (fun o => (pc : Int) + o) = ts.toList.map (fun t => (t.toNat : Int)))
    | _ => false)
  | .lookupswitch d ps => (match r with
    | .lookupswitch d' qs => (qs.toList.zip (qs.toList.drop 1)).all (fun (a, next) => decide (a.1 < next.1)) && decide ((∀ q ∈ qs.toList, -1000 < q.1 ∧ q.1 < 1000) ∧ (pc : Int) + d' = (d.toNat : Int) ∧ qs.toList.map (fun o => (o.1, (pc : Int) + o.2)) = ps.toList.map (fun t => (t.1, (t.2.toNat : Int))))
    | _ => false)
  | .f2i => (match r with
    | .invokestatic i => Nat.beq n 3 && am_wt (am_ix k i) (.methodLink (am_y k).cls i ⟨"java/lang/Math", "abs", "(I)I"⟩)
    | _ => false)
  | .pop2 => (match r with
    | .invokespecial i => Nat.beq n 3 && am_wt (am_ix k i) (.methodLink (am_y k).cls i ⟨"java/lang/Object", "<init>", "()V"⟩)
    | _ => false)
  | .d2i => (match r with
    | .invokevirtual i => Nat.beq n 3 && am_wt (am_ix k i) (.methodLink (am_y k).cls i ⟨"java/lang/String", "charAt", "(I)C"⟩)
    | _ => false)
  | .f2l => (match r with
    | .invokevirtual i => Nat.beq n 3 && am_wt (am_ix k i) (.methodLink (am_y k).cls i ⟨"java/lang/String", "length", "()I"⟩)
    | _ => false)
  | .getfield j => (match r with
    | .getfield i => Nat.beq n 3 && (match am_cls[j / 32]? with
      | some q => Nat.blt (j % 32) q.2.2 && am_wt (am_ix k i) (.fieldLink (am_y k).cls i (q.2.1 (j % 32)).1 (q.2.1 (j % 32)).2.1 (q.2.1 (j % 32)).2.2.1)
      | none => false)
    | _ => false)
  | .putfield j => (match r with
    | .putfield i => Nat.beq n 3 && (match am_cls[j / 32]? with
      | some q => Nat.blt (j % 32) q.2.2 && am_wt (am_ix k i) (.fieldLink (am_y k).cls i (q.2.1 (j % 32)).1 (q.2.1 (j % 32)).2.1 (q.2.1 (j % 32)).2.2.1) && (!(q.2.1 (j % 32)).2.2.2 || (decide ((am_y k).name = "<init>") && decide ((q.2.1 (j % 32)).1 = (am_y k).cls)))
      | none => false)
    | _ => false)
  | .new ci => (match r with
    | .new i => Nat.beq n 3 && Nat.blt ci 9 && am_wt (am_ix k i) (.classLink (am_y k).cls i (am_nm ci))
    | _ => false)
  | .newarray ty => (match r with
    | .newarray ty' => Nat.beq n 2 && decide (ty = ty')
    | _ => false)
  | .anewarray ci => (match r with
    | .anewarray i => Nat.beq n 3 && Nat.beq ci 5 && am_wt (am_ix k i) (.classLink (am_y k).cls i "MateProblems$MoveRow")
    | _ => false)
  | .iload i => (match r with
    | .iload j => Nat.beq n 2 && Nat.beq i j
    | .iload_n j => Nat.beq n 1 && Nat.beq i (j : Nat)
    | _ => false)
  | .lload i => (match r with
    | .lload j => Nat.beq n 2 && Nat.beq i j
    | .lload_n j => Nat.beq n 1 && Nat.beq i (j : Nat)
    | _ => false)
  | .aload i => (match r with
    | .aload j => Nat.beq n 2 && Nat.beq i j
    | .aload_n j => Nat.beq n 1 && Nat.beq i (j : Nat)
    | _ => false)
  | .istore i => (match r with
    | .istore j => Nat.beq n 2 && Nat.beq i j && Nat.blt i (am_ml k)
    | .istore_n j => Nat.beq n 1 && Nat.beq i (j : Nat) && Nat.blt i (am_ml k)
    | _ => false)
  | .lstore i => (match r with
    | .lstore j => Nat.beq n 2 && Nat.beq i j && Nat.blt (i + 1) (am_ml k)
    | .lstore_n j => Nat.beq n 1 && Nat.beq i (j : Nat) && Nat.blt (i + 1) (am_ml k)
    | _ => false)
  | .astore i => (match r with
    | .astore j => Nat.beq n 2 && Nat.beq i j && Nat.blt i (am_ml k)
    | .astore_n j => Nat.beq n 1 && Nat.beq i (j : Nat) && Nat.blt i (am_ml k)
    | _ => false)
  | .iinc i c => (match r with
    | .iinc j c' => Nat.beq n 3 && Nat.beq i j && Nat.blt i (am_ml k) && decide (Int32.ofInt c' = am_lit c)
    | _ => false)
  | ins => am_smp ins && Nat.beq n 1 && decide (r = ins)
def am_ok (k pc : Nat) (ins : Instr) (len : Nat) : Bool := match decode (am_by k) pc with
  | .ok (r, n) => Nat.beq n len && am_okr k pc ins r n
  | .error _ => false
theorem am_ok_r {k pc len : Nat} {ins : Instr} (h : am_ok k pc ins len = true) : ∃ r, decode (am_by k) pc = .ok (r, len) ∧ am_okr k pc ins r len = true := by
  unfold am_ok at h
  cases hd : decode (am_by k) pc with
  | error e => rw [hd] at h; cases h
  | ok q =>
    obtain ⟨r, n⟩ := q
    rw [hd] at h
    simp only [Bool.and_eq_true] at h
    have hn : n = len := Nat.eq_of_beq_eq_true h.1
    subst hn
    exact ⟨r, rfl, h.2⟩
/-! the start that all is held against -/
/-- what was there at the start is as it was -/
def am_old (s0 : State) (H : Heap) : Prop := s0.heap.size ≤ H.size ∧ ∀ q : Nat, q < s0.heap.size → H[q]? = s0.heap[q]?
def am_A (s0 : State) : Nat → Prop := fun q => s0.heap.size ≤ q
/-- the exceptions that the class throws -/
def am_xn (e : Nat) : String := cond (Nat.beq e 0) "java/lang/IllegalStateException" (cond (Nat.beq e 1) "java/lang/IllegalArgumentException" (cond (Nat.beq e 2) "java/lang/IndexOutOfBoundsException" "java/lang/UnsupportedOperationException"))
def am_base (s0 : State) (a0 : Array Value) (D : va_G) (J : FieldType → ClassId) : Prop :=
  (∀ w ∈ lw_tbl, w.before a0 s0 = true) ∧ va_K D am_cls (am_tl.map fun t => (J t, t)) s0 ∧
  (∀ (i : Nat) (tx : String), Jvm.Cond.stringRef "MateProblems" i tx ∈ lw_tbl → ∃ q, vk_R "MateProblems" i tx q s0) ∧
  (∀ i j : Nat, i < 4 → j < 4 → ∃ ci cj, s0.vm.findClass (am_xn i) = some ci ∧ s0.vm.findClass (am_xn j) = some cj ∧ s0.vm.assignable ci cj = decide (i = j)) ∧
  (∃ v : Value, v.isRef = true ∧ va_Z Bundle.tN "UNASSIGNED_STACK" Bundle.steD v (am_A s0) s0 s0.heap) ∧ (∃ v : Value, v.isRef = true ∧ va_Z Bundle.tN "SUPPRESSED_SENTINEL" Bundle.listD v (am_A s0) s0 s0.heap) ∧
  va_Z "java/lang/String" "COMPACT_STRINGS" "Z" (.int 1) (am_A s0) s0 s0.heap ∧ ∃ v : Value, v.isRef = true ∧ va_Z "jdk/internal/util/Preconditions" "SIOOBE_FORMATTER" "Ljava/util/function/BiFunction;" v (am_A s0) s0 s0.heap
/-- the tables, the script, the texts -/
def am_z0 (s0 : State) (P : am_P) (z : List am_C) : Prop :=
  (∀ (a : Nat) (c : am_C), am_nth z a = some c → a < 100 → ∃ q, P.1[a]? = some q ∧ match c with
    | .inr (.int, n, .inl f) => va_T .int q n (fun j => .int (f j)) (am_A s0) s0 s0.heap
    | .inr (.byte, n, .inl f) => ∃ v : Nat, n < 1000 ∧ va_O "java/lang/String" q (am_A s0) s0 s0.heap ∧ va_OF "java/lang/String" "coder" "B" (.int 0) q (am_A s0) s0 s0.heap ∧ va_OF "java/lang/String" "value" "[B" (.ref v) q (am_A s0) s0 s0.heap ∧ va_T .byte v n (fun j => .int (f j)) (am_A s0) s0 s0.heap ∧ ∀ j, 0 ≤ (f j).toInt ∧ (f j).toInt < 128
    | _ => False) ∧
  (∀ a : Nat, 0 < a → a < 7 → ∃ q, P.1[a]? = some q ∧ va_Z (am_sp a).1 (am_sp a).2 "[I" (.ref q) (am_A s0) s0 s0.heap) ∧
  ∃ q7 q8, P.1[7]? = some q7 ∧ P.1[8]? = some q8 ∧ vk_R "MateProblems$Reader" (am_si 7) " PNBRQK  pnbrqk" q7 s0 ∧ vk_R "MateProblems$Reader" (am_si 8) "KQkq" q8 s0
/-- AA: the cells that may change since the method's entry: those of the world at its entry, and new ones -/
def am_os (s0 : State) (AA : Nat → Prop) (s : State) : Prop := s0.heap.size ≤ s.heap.size ∧ (∀ q : Nat, q < s0.heap.size → s.heap[q]? = s0.heap[q]?) ∧ (∀ q, AA q → am_A s0 q) ∧ (∀ q, s.heap.size ≤ q → AA q) ∧ ∀ (q : Nat) (cell : Cell), AA q → s.heap[q]? = some cell → cell.vm.isStatics = false
/-- a method of ours runs -/
def am_cx (k : Nat) (s0 : State) (a0 : Array Value) (D : va_G) (J : FieldType → ClassId) (AA : Nat → Prop) (p : Program) (R : Room) (s : State) (m : MethodId) (meth : Method) (c : Code) : Prop :=
  p.tables.exec = Jvm.exec ∧ c.code = am_by k ∧ c.maxLocals = am_ml k ∧ s.vm.findClass (am_y k).cls = some m.cls ∧ am_base s0 a0 D J ∧ s0.WarmedH s.vm ∧ am_os s0 AA s ∧ meth.name = (am_y k).name ∧ meth.sig.returnType = am_rt k ∧ meth.locks = false ∧ 1 ≤ R.frames ∧ 40 ≤ R.locals
/-- where it stands -/
def am_at (s0 : State) (D : va_G) (J : FieldType → ClassId) (AA : Nat → Prop) (s : State) (k : Nat) (P : am_P) (lv st : List Value) (h : am_H) (ls : Array Slot) (rst : List Value) (H : Heap) (locs : List Loc) : Prop :=
  am_lr P lv ls ∧ lv.length = am_ml k ∧ am_vs P st rst ∧ am_z0 s0 P h.1 ∧ ∃ ws, am_wr J P h ws ∧ va_P D am_cls ws H ∧ va_D AA ws ∧ va_S AA s.heap H locs
section AM1
variable {k : Nat} {s0 : State} {a0 : Array Value} {D : va_G} {J : FieldType → ClassId} {AA : Nat → Prop}
variable {p : Program} {l : Launch} {e : Env} {R : Room} {s : State} {m : MethodId} {args : Array Value} {below : List Frame} {meth : Method} {c : Code} {H : Heap} {locs : List Loc} {cells slots : Nat} {Q : State → Prop}
variable {pc len : Nat} {ls : Array Slot} {rst : List Value} {P : am_P} {lv st : List Value} {h : am_H} {r : am_S}
theorem am_cx.word (C : am_cx k s0 a0 D J AA p R s m meth c) {w : Jvm.Cond} (hw : w ∈ lw_tbl) (hg : goodWord w = true) : w.before args s = true := word_at C.2.2.2.2.2.1 (good_of_word hg) (C.2.2.2.2.1.1 w hw)
theorem am_cx.K (C : am_cx k s0 a0 D J AA p R s m meth c) : va_K D am_cls (am_tl.map fun t => (J t, t)) s := C.2.2.2.2.1.2.1.moved C.2.2.2.2.2.1.alike
/-- the goal behind an instruction -/
def am_go (s0 : State) (D : va_G) (J : FieldType → ClassId) (AA : Nat → Prop) (p : Program) (l : Launch) (e : Env) (R : Room) (s : State) (m : MethodId) (args : Array Value) (below : List Frame) (meth : Method) (c : Code) (k : Nat) (P : am_P) (cells slots : Nat) (h : am_H) (Q : State → Prop) (r : am_S) : Prop :=
  ∀ (P' : am_P) (ls' : Array Slot) (rst' : List Value) (H' : Heap) (locs' : List Loc), am_px P P' → am_at s0 D J AA s k P' r.2.1 r.2.2.1 r.2.2.2 ls' rst' H' locs' →
    W p l e R s m args below meth c H' locs' (cells + (r.2.2.2.2.2.2.1 - h.2.2.2.1)) (slots + (r.2.2.2.2.2.2.2 - h.2.2.2.2)) Q (F0 m r.1 ls' rst')
theorem am_go.same {nx : Nat} {lv' st' : List Value} (G : am_go s0 D J AA p l e R s m args below meth c k P cells slots h Q (nx, lv', st', h)) {ls' : Array Slot} {rst' : List Value} (A : am_at s0 D J AA s k P lv' st' h ls' rst' H locs) : W p l e R s m args below meth c H locs cells slots Q (F0 m nx ls' rst') := by
  have g := G P ls' rst' H locs (am_px.rf P) A
  simp only [Nat.sub_self, Nat.add_zero] at g
  exact g
theorem am_vs.c1 {v : Value} (h : am_vs P (v :: st) rst) : ∃ w r, rst = w :: r ∧ am_vr P v w ∧ am_vs P st r := by
  cases rst with
  | nil => exact h.elim
  | cons w r => exact ⟨w, r, rfl, h.1, h.2⟩

theorem ao_iadd (C : am_cx k s0 a0 D J AA p R s m meth c) (hok : am_ok k pc .iadd len = true) (A : am_at s0 D J AA s k P lv st h ls rst H locs) (e1 : am_o1 k .iadd (pc + len) lv st h = some r) (G : am_go s0 D J AA p l e R s m args below meth c k P cells slots h Q r) : W p l e R s m args below meth c H locs cells slots Q (F0 m pc ls rst) := by
  obtain ⟨r0, hd, hro⟩ := am_ok_r hok
  obtain ⟨hn, hr⟩ : len = 1 ∧ r0 = .iadd := by
    have q : (am_smp .iadd && Nat.beq len 1 && decide (r0 = .iadd)) = true := hro
    simp only [Bool.and_eq_true, decide_eq_true_eq] at q
    exact ⟨Nat.eq_of_beq_eq_true q.1.2, q.2⟩
  subst hn; subst hr
  obtain ⟨A1, A2, A3, A4⟩ := A
  change Option.map _ (match st with | .int y :: .int x :: st => some (pc + 1, .int (x + y) :: st, h) | _ => none) = some r at e1
  split at e1
  · rename_i y x st
    obtain ⟨w0, r0, rfl, hv0, B0⟩ := am_vs.c1 A3
    cases (show w0 = .int y from hv0)
    obtain ⟨w1, r1, rfl, hv1, B1⟩ := am_vs.c1 B0
    cases (show w1 = .int x from hv1)
    cases e1
    exact lv_iadd C.1 C.2.1 hd (G.same ⟨A1, A2, ⟨rfl, B1⟩, A4⟩)
  · cases e1
theorem ao_isub (C : am_cx k s0 a0 D J AA p R s m meth c) (hok : am_ok k pc .isub len = true) (A : am_at s0 D J AA s k P lv st h ls rst H locs) (e1 : am_o1 k .isub (pc + len) lv st h = some r) (G : am_go s0 D J AA p l e R s m args below meth c k P cells slots h Q r) : W p l e R s m args below meth c H locs cells slots Q (F0 m pc ls rst) := by
  obtain ⟨r0, hd, hro⟩ := am_ok_r hok
  obtain ⟨hn, hr⟩ : len = 1 ∧ r0 = .isub := by
    have q : (am_smp .isub && Nat.beq len 1 && decide (r0 = .isub)) = true := hro
    simp only [Bool.and_eq_true, decide_eq_true_eq] at q
    exact ⟨Nat.eq_of_beq_eq_true q.1.2, q.2⟩
  subst hn; subst hr
  obtain ⟨A1, A2, A3, A4⟩ := A
  change Option.map _ (match st with | .int y :: .int x :: st => some (pc + 1, .int (x - y) :: st, h) | _ => none) = some r at e1
  split at e1
  · rename_i y x st
    obtain ⟨w0, r0, rfl, hv0, B0⟩ := am_vs.c1 A3
    cases (show w0 = .int y from hv0)
    obtain ⟨w1, r1, rfl, hv1, B1⟩ := am_vs.c1 B0
    cases (show w1 = .int x from hv1)
    cases e1
    exact lv_isub C.1 C.2.1 hd (G.same ⟨A1, A2, ⟨rfl, B1⟩, A4⟩)
  · cases e1
theorem ao_imul (C : am_cx k s0 a0 D J AA p R s m meth c) (hok : am_ok k pc .imul len = true) (A : am_at s0 D J AA s k P lv st h ls rst H locs) (e1 : am_o1 k .imul (pc + len) lv st h = some r) (G : am_go s0 D J AA p l e R s m args below meth c k P cells slots h Q r) : W p l e R s m args below meth c H locs cells slots Q (F0 m pc ls rst) := by
  obtain ⟨r0, hd, hro⟩ := am_ok_r hok
  obtain ⟨hn, hr⟩ : len = 1 ∧ r0 = .imul := by
    have q : (am_smp .imul && Nat.beq len 1 && decide (r0 = .imul)) = true := hro
    simp only [Bool.and_eq_true, decide_eq_true_eq] at q
    exact ⟨Nat.eq_of_beq_eq_true q.1.2, q.2⟩
  subst hn; subst hr
  obtain ⟨A1, A2, A3, A4⟩ := A
  change Option.map _ (match st with | .int y :: .int x :: st => some (pc + 1, .int (x * y) :: st, h) | _ => none) = some r at e1
  split at e1
  · rename_i y x st
    obtain ⟨w0, r0, rfl, hv0, B0⟩ := am_vs.c1 A3
    cases (show w0 = .int y from hv0)
    obtain ⟨w1, r1, rfl, hv1, B1⟩ := am_vs.c1 B0
    cases (show w1 = .int x from hv1)
    cases e1
    exact lv_imul C.1 C.2.1 hd (G.same ⟨A1, A2, ⟨rfl, B1⟩, A4⟩)
  · cases e1
theorem ao_iand (C : am_cx k s0 a0 D J AA p R s m meth c) (hok : am_ok k pc .iand len = true) (A : am_at s0 D J AA s k P lv st h ls rst H locs) (e1 : am_o1 k .iand (pc + len) lv st h = some r) (G : am_go s0 D J AA p l e R s m args below meth c k P cells slots h Q r) : W p l e R s m args below meth c H locs cells slots Q (F0 m pc ls rst) := by
  obtain ⟨r0, hd, hro⟩ := am_ok_r hok
  obtain ⟨hn, hr⟩ : len = 1 ∧ r0 = .iand := by
    have q : (am_smp .iand && Nat.beq len 1 && decide (r0 = .iand)) = true := hro
    simp only [Bool.and_eq_true, decide_eq_true_eq] at q
    exact ⟨Nat.eq_of_beq_eq_true q.1.2, q.2⟩
  subst hn; subst hr
  obtain ⟨A1, A2, A3, A4⟩ := A
  change Option.map _ (match st with | .int y :: .int x :: st => some (pc + 1, .int (x &&& y) :: st, h) | _ => none) = some r at e1
  split at e1
  · rename_i y x st
    obtain ⟨w0, r0, rfl, hv0, B0⟩ := am_vs.c1 A3
    cases (show w0 = .int y from hv0)
    obtain ⟨w1, r1, rfl, hv1, B1⟩ := am_vs.c1 B0
    cases (show w1 = .int x from hv1)
    cases e1
    exact lv_iand C.1 C.2.1 hd (G.same ⟨A1, A2, ⟨rfl, B1⟩, A4⟩)
  · cases e1
theorem ao_ior (C : am_cx k s0 a0 D J AA p R s m meth c) (hok : am_ok k pc .ior len = true) (A : am_at s0 D J AA s k P lv st h ls rst H locs) (e1 : am_o1 k .ior (pc + len) lv st h = some r) (G : am_go s0 D J AA p l e R s m args below meth c k P cells slots h Q r) : W p l e R s m args below meth c H locs cells slots Q (F0 m pc ls rst) := by
  obtain ⟨r0, hd, hro⟩ := am_ok_r hok
  obtain ⟨hn, hr⟩ : len = 1 ∧ r0 = .ior := by
    have q : (am_smp .ior && Nat.beq len 1 && decide (r0 = .ior)) = true := hro
    simp only [Bool.and_eq_true, decide_eq_true_eq] at q
    exact ⟨Nat.eq_of_beq_eq_true q.1.2, q.2⟩
  subst hn; subst hr
  obtain ⟨A1, A2, A3, A4⟩ := A
  change Option.map _ (match st with | .int y :: .int x :: st => some (pc + 1, .int (x ||| y) :: st, h) | _ => none) = some r at e1
  split at e1
  · rename_i y x st
    obtain ⟨w0, r0, rfl, hv0, B0⟩ := am_vs.c1 A3
    cases (show w0 = .int y from hv0)
    obtain ⟨w1, r1, rfl, hv1, B1⟩ := am_vs.c1 B0
    cases (show w1 = .int x from hv1)
    cases e1
    exact lv_ior C.1 C.2.1 hd (G.same ⟨A1, A2, ⟨rfl, B1⟩, A4⟩)
  · cases e1
theorem ao_ixor (C : am_cx k s0 a0 D J AA p R s m meth c) (hok : am_ok k pc .ixor len = true) (A : am_at s0 D J AA s k P lv st h ls rst H locs) (e1 : am_o1 k .ixor (pc + len) lv st h = some r) (G : am_go s0 D J AA p l e R s m args below meth c k P cells slots h Q r) : W p l e R s m args below meth c H locs cells slots Q (F0 m pc ls rst) := by
  obtain ⟨r0, hd, hro⟩ := am_ok_r hok
  obtain ⟨hn, hr⟩ : len = 1 ∧ r0 = .ixor := by
    have q : (am_smp .ixor && Nat.beq len 1 && decide (r0 = .ixor)) = true := hro
    simp only [Bool.and_eq_true, decide_eq_true_eq] at q
    exact ⟨Nat.eq_of_beq_eq_true q.1.2, q.2⟩
  subst hn; subst hr
  obtain ⟨A1, A2, A3, A4⟩ := A
  change Option.map _ (match st with | .int y :: .int x :: st => some (pc + 1, .int (x ^^^ y) :: st, h) | _ => none) = some r at e1
  split at e1
  · rename_i y x st
    obtain ⟨w0, r0, rfl, hv0, B0⟩ := am_vs.c1 A3
    cases (show w0 = .int y from hv0)
    obtain ⟨w1, r1, rfl, hv1, B1⟩ := am_vs.c1 B0
    cases (show w1 = .int x from hv1)
    cases e1
    exact lv_ixor C.1 C.2.1 hd (G.same ⟨A1, A2, ⟨rfl, B1⟩, A4⟩)
  · cases e1
theorem ao_ladd (C : am_cx k s0 a0 D J AA p R s m meth c) (hok : am_ok k pc .ladd len = true) (A : am_at s0 D J AA s k P lv st h ls rst H locs) (e1 : am_o1 k .ladd (pc + len) lv st h = some r) (G : am_go s0 D J AA p l e R s m args below meth c k P cells slots h Q r) : W p l e R s m args below meth c H locs cells slots Q (F0 m pc ls rst) := by
  obtain ⟨r0, hd, hro⟩ := am_ok_r hok
  obtain ⟨hn, hr⟩ : len = 1 ∧ r0 = .ladd := by
    have q : (am_smp .ladd && Nat.beq len 1 && decide (r0 = .ladd)) = true := hro
    simp only [Bool.and_eq_true, decide_eq_true_eq] at q
    exact ⟨Nat.eq_of_beq_eq_true q.1.2, q.2⟩
  subst hn; subst hr
  obtain ⟨A1, A2, A3, A4⟩ := A
  change Option.map _ (match st with | .long y :: .long x :: st => some (pc + 1, .long (x + y) :: st, h) | _ => none) = some r at e1
  split at e1
  · rename_i y x st
    obtain ⟨w0, r0, rfl, hv0, B0⟩ := am_vs.c1 A3
    cases (show w0 = .long y from hv0)
    obtain ⟨w1, r1, rfl, hv1, B1⟩ := am_vs.c1 B0
    cases (show w1 = .long x from hv1)
    cases e1
    exact lv_ladd C.1 C.2.1 hd (G.same ⟨A1, A2, ⟨rfl, B1⟩, A4⟩)
  · cases e1
theorem ao_lsub (C : am_cx k s0 a0 D J AA p R s m meth c) (hok : am_ok k pc .lsub len = true) (A : am_at s0 D J AA s k P lv st h ls rst H locs) (e1 : am_o1 k .lsub (pc + len) lv st h = some r) (G : am_go s0 D J AA p l e R s m args below meth c k P cells slots h Q r) : W p l e R s m args below meth c H locs cells slots Q (F0 m pc ls rst) := by
  obtain ⟨r0, hd, hro⟩ := am_ok_r hok
  obtain ⟨hn, hr⟩ : len = 1 ∧ r0 = .lsub := by
    have q : (am_smp .lsub && Nat.beq len 1 && decide (r0 = .lsub)) = true := hro
    simp only [Bool.and_eq_true, decide_eq_true_eq] at q
    exact ⟨Nat.eq_of_beq_eq_true q.1.2, q.2⟩
  subst hn; subst hr
  obtain ⟨A1, A2, A3, A4⟩ := A
  change Option.map _ (match st with | .long y :: .long x :: st => some (pc + 1, .long (x - y) :: st, h) | _ => none) = some r at e1
  split at e1
  · rename_i y x st
    obtain ⟨w0, r0, rfl, hv0, B0⟩ := am_vs.c1 A3
    cases (show w0 = .long y from hv0)
    obtain ⟨w1, r1, rfl, hv1, B1⟩ := am_vs.c1 B0
    cases (show w1 = .long x from hv1)
    cases e1
    exact lv_lsub C.1 C.2.1 hd (G.same ⟨A1, A2, ⟨rfl, B1⟩, A4⟩)
  · cases e1
theorem ao_lmul (C : am_cx k s0 a0 D J AA p R s m meth c) (hok : am_ok k pc .lmul len = true) (A : am_at s0 D J AA s k P lv st h ls rst H locs) (e1 : am_o1 k .lmul (pc + len) lv st h = some r) (G : am_go s0 D J AA p l e R s m args below meth c k P cells slots h Q r) : W p l e R s m args below meth c H locs cells slots Q (F0 m pc ls rst) := by
  obtain ⟨r0, hd, hro⟩ := am_ok_r hok
  obtain ⟨hn, hr⟩ : len = 1 ∧ r0 = .lmul := by
    have q : (am_smp .lmul && Nat.beq len 1 && decide (r0 = .lmul)) = true := hro
    simp only [Bool.and_eq_true, decide_eq_true_eq] at q
    exact ⟨Nat.eq_of_beq_eq_true q.1.2, q.2⟩
  subst hn; subst hr
  obtain ⟨A1, A2, A3, A4⟩ := A
  change Option.map _ (match st with | .long y :: .long x :: st => some (pc + 1, .long (x * y) :: st, h) | _ => none) = some r at e1
  split at e1
  · rename_i y x st
    obtain ⟨w0, r0, rfl, hv0, B0⟩ := am_vs.c1 A3
    cases (show w0 = .long y from hv0)
    obtain ⟨w1, r1, rfl, hv1, B1⟩ := am_vs.c1 B0
    cases (show w1 = .long x from hv1)
    cases e1
    exact lv_lmul C.1 C.2.1 hd (G.same ⟨A1, A2, ⟨rfl, B1⟩, A4⟩)
  · cases e1
theorem ao_land (C : am_cx k s0 a0 D J AA p R s m meth c) (hok : am_ok k pc .land len = true) (A : am_at s0 D J AA s k P lv st h ls rst H locs) (e1 : am_o1 k .land (pc + len) lv st h = some r) (G : am_go s0 D J AA p l e R s m args below meth c k P cells slots h Q r) : W p l e R s m args below meth c H locs cells slots Q (F0 m pc ls rst) := by
  obtain ⟨r0, hd, hro⟩ := am_ok_r hok
  obtain ⟨hn, hr⟩ : len = 1 ∧ r0 = .land := by
    have q : (am_smp .land && Nat.beq len 1 && decide (r0 = .land)) = true := hro
    simp only [Bool.and_eq_true, decide_eq_true_eq] at q
    exact ⟨Nat.eq_of_beq_eq_true q.1.2, q.2⟩
  subst hn; subst hr
  obtain ⟨A1, A2, A3, A4⟩ := A
  change Option.map _ (match st with | .long y :: .long x :: st => some (pc + 1, .long (x &&& y) :: st, h) | _ => none) = some r at e1
  split at e1
  · rename_i y x st
    obtain ⟨w0, r0, rfl, hv0, B0⟩ := am_vs.c1 A3
    cases (show w0 = .long y from hv0)
    obtain ⟨w1, r1, rfl, hv1, B1⟩ := am_vs.c1 B0
    cases (show w1 = .long x from hv1)
    cases e1
    exact lv_land C.1 C.2.1 hd (G.same ⟨A1, A2, ⟨rfl, B1⟩, A4⟩)
  · cases e1
theorem ao_lor (C : am_cx k s0 a0 D J AA p R s m meth c) (hok : am_ok k pc .lor len = true) (A : am_at s0 D J AA s k P lv st h ls rst H locs) (e1 : am_o1 k .lor (pc + len) lv st h = some r) (G : am_go s0 D J AA p l e R s m args below meth c k P cells slots h Q r) : W p l e R s m args below meth c H locs cells slots Q (F0 m pc ls rst) := by
  obtain ⟨r0, hd, hro⟩ := am_ok_r hok
  obtain ⟨hn, hr⟩ : len = 1 ∧ r0 = .lor := by
    have q : (am_smp .lor && Nat.beq len 1 && decide (r0 = .lor)) = true := hro
    simp only [Bool.and_eq_true, decide_eq_true_eq] at q
    exact ⟨Nat.eq_of_beq_eq_true q.1.2, q.2⟩
  subst hn; subst hr
  obtain ⟨A1, A2, A3, A4⟩ := A
  change Option.map _ (match st with | .long y :: .long x :: st => some (pc + 1, .long (x ||| y) :: st, h) | _ => none) = some r at e1
  split at e1
  · rename_i y x st
    obtain ⟨w0, r0, rfl, hv0, B0⟩ := am_vs.c1 A3
    cases (show w0 = .long y from hv0)
    obtain ⟨w1, r1, rfl, hv1, B1⟩ := am_vs.c1 B0
    cases (show w1 = .long x from hv1)
    cases e1
    exact lv_lor C.1 C.2.1 hd (G.same ⟨A1, A2, ⟨rfl, B1⟩, A4⟩)
  · cases e1
theorem ao_lxor (C : am_cx k s0 a0 D J AA p R s m meth c) (hok : am_ok k pc .lxor len = true) (A : am_at s0 D J AA s k P lv st h ls rst H locs) (e1 : am_o1 k .lxor (pc + len) lv st h = some r) (G : am_go s0 D J AA p l e R s m args below meth c k P cells slots h Q r) : W p l e R s m args below meth c H locs cells slots Q (F0 m pc ls rst) := by
  obtain ⟨r0, hd, hro⟩ := am_ok_r hok
  obtain ⟨hn, hr⟩ : len = 1 ∧ r0 = .lxor := by
    have q : (am_smp .lxor && Nat.beq len 1 && decide (r0 = .lxor)) = true := hro
    simp only [Bool.and_eq_true, decide_eq_true_eq] at q
    exact ⟨Nat.eq_of_beq_eq_true q.1.2, q.2⟩
  subst hn; subst hr
  obtain ⟨A1, A2, A3, A4⟩ := A
  change Option.map _ (match st with | .long y :: .long x :: st => some (pc + 1, .long (x ^^^ y) :: st, h) | _ => none) = some r at e1
  split at e1
  · rename_i y x st
    obtain ⟨w0, r0, rfl, hv0, B0⟩ := am_vs.c1 A3
    cases (show w0 = .long y from hv0)
    obtain ⟨w1, r1, rfl, hv1, B1⟩ := am_vs.c1 B0
    cases (show w1 = .long x from hv1)
    cases e1
    exact lv_lxor C.1 C.2.1 hd (G.same ⟨A1, A2, ⟨rfl, B1⟩, A4⟩)
  · cases e1
theorem ao_ishl (C : am_cx k s0 a0 D J AA p R s m meth c) (hok : am_ok k pc .ishl len = true) (A : am_at s0 D J AA s k P lv st h ls rst H locs) (e1 : am_o1 k .ishl (pc + len) lv st h = some r) (G : am_go s0 D J AA p l e R s m args below meth c k P cells slots h Q r) : W p l e R s m args below meth c H locs cells slots Q (F0 m pc ls rst) := by
  obtain ⟨r0, hd, hro⟩ := am_ok_r hok
  obtain ⟨hn, hr⟩ : len = 1 ∧ r0 = .ishl := by
    have q : (am_smp .ishl && Nat.beq len 1 && decide (r0 = .ishl)) = true := hro
    simp only [Bool.and_eq_true, decide_eq_true_eq] at q
    exact ⟨Nat.eq_of_beq_eq_true q.1.2, q.2⟩
  subst hn; subst hr
  obtain ⟨A1, A2, A3, A4⟩ := A
  change Option.map _ (match st with | .int y :: .int x :: st => some (pc + 1, .int (x <<< (y &&& 31)) :: st, h) | _ => none) = some r at e1
  split at e1
  · rename_i y x st
    obtain ⟨w0, r0, rfl, hv0, B0⟩ := am_vs.c1 A3
    cases (show w0 = .int y from hv0)
    obtain ⟨w1, r1, rfl, hv1, B1⟩ := am_vs.c1 B0
    cases (show w1 = .int x from hv1)
    cases e1
    exact lv_ishl C.1 C.2.1 hd (G.same ⟨A1, A2, ⟨rfl, B1⟩, A4⟩)
  · cases e1
theorem ao_ishr (C : am_cx k s0 a0 D J AA p R s m meth c) (hok : am_ok k pc .ishr len = true) (A : am_at s0 D J AA s k P lv st h ls rst H locs) (e1 : am_o1 k .ishr (pc + len) lv st h = some r) (G : am_go s0 D J AA p l e R s m args below meth c k P cells slots h Q r) : W p l e R s m args below meth c H locs cells slots Q (F0 m pc ls rst) := by
  obtain ⟨r0, hd, hro⟩ := am_ok_r hok
  obtain ⟨hn, hr⟩ : len = 1 ∧ r0 = .ishr := by
    have q : (am_smp .ishr && Nat.beq len 1 && decide (r0 = .ishr)) = true := hro
    simp only [Bool.and_eq_true, decide_eq_true_eq] at q
    exact ⟨Nat.eq_of_beq_eq_true q.1.2, q.2⟩
  subst hn; subst hr
  obtain ⟨A1, A2, A3, A4⟩ := A
  change Option.map _ (match st with | .int y :: .int x :: st => some (pc + 1, .int (x >>> (y &&& 31)) :: st, h) | _ => none) = some r at e1
  split at e1
  · rename_i y x st
    obtain ⟨w0, r0, rfl, hv0, B0⟩ := am_vs.c1 A3
    cases (show w0 = .int y from hv0)
    obtain ⟨w1, r1, rfl, hv1, B1⟩ := am_vs.c1 B0
    cases (show w1 = .int x from hv1)
    cases e1
    exact lv_ishr C.1 C.2.1 hd (G.same ⟨A1, A2, ⟨rfl, B1⟩, A4⟩)
  · cases e1
theorem ao_iushr (C : am_cx k s0 a0 D J AA p R s m meth c) (hok : am_ok k pc .iushr len = true) (A : am_at s0 D J AA s k P lv st h ls rst H locs) (e1 : am_o1 k .iushr (pc + len) lv st h = some r) (G : am_go s0 D J AA p l e R s m args below meth c k P cells slots h Q r) : W p l e R s m args below meth c H locs cells slots Q (F0 m pc ls rst) := by
  obtain ⟨r0, hd, hro⟩ := am_ok_r hok
  obtain ⟨hn, hr⟩ : len = 1 ∧ r0 = .iushr := by
    have q : (am_smp .iushr && Nat.beq len 1 && decide (r0 = .iushr)) = true := hro
    simp only [Bool.and_eq_true, decide_eq_true_eq] at q
    exact ⟨Nat.eq_of_beq_eq_true q.1.2, q.2⟩
  subst hn; subst hr
  obtain ⟨A1, A2, A3, A4⟩ := A
  change Option.map _ (match st with | .int y :: .int x :: st => some (pc + 1, .int ((x.toUInt32 >>> (y.toUInt32 &&& Int32.toUInt32 31)).toInt32) :: st, h) | _ => none) = some r at e1
  split at e1
  · rename_i y x st
    obtain ⟨w0, r0, rfl, hv0, B0⟩ := am_vs.c1 A3
    cases (show w0 = .int y from hv0)
    obtain ⟨w1, r1, rfl, hv1, B1⟩ := am_vs.c1 B0
    cases (show w1 = .int x from hv1)
    cases e1
    exact lv_iushr C.1 C.2.1 hd rfl (G.same ⟨A1, A2, ⟨rfl, B1⟩, A4⟩)
  · cases e1
theorem ao_lshl (C : am_cx k s0 a0 D J AA p R s m meth c) (hok : am_ok k pc .lshl len = true) (A : am_at s0 D J AA s k P lv st h ls rst H locs) (e1 : am_o1 k .lshl (pc + len) lv st h = some r) (G : am_go s0 D J AA p l e R s m args below meth c k P cells slots h Q r) : W p l e R s m args below meth c H locs cells slots Q (F0 m pc ls rst) := by
  obtain ⟨r0, hd, hro⟩ := am_ok_r hok
  obtain ⟨hn, hr⟩ : len = 1 ∧ r0 = .lshl := by
    have q : (am_smp .lshl && Nat.beq len 1 && decide (r0 = .lshl)) = true := hro
    simp only [Bool.and_eq_true, decide_eq_true_eq] at q
    exact ⟨Nat.eq_of_beq_eq_true q.1.2, q.2⟩
  subst hn; subst hr
  obtain ⟨A1, A2, A3, A4⟩ := A
  change Option.map _ (match st with | .int y :: .long x :: st => some (pc + 1, .long (am_shl x y) :: st, h) | _ => none) = some r at e1
  split at e1
  · rename_i y x st
    obtain ⟨w0, r0, rfl, hv0, B0⟩ := am_vs.c1 A3
    cases (show w0 = .int y from hv0)
    obtain ⟨w1, r1, rfl, hv1, B1⟩ := am_vs.c1 B0
    cases (show w1 = .long x from hv1)
    cases e1
    exact lv_lshl C.1 C.2.1 hd rfl (G.same ⟨A1, A2, ⟨rfl, B1⟩, A4⟩)
  · cases e1
theorem ao_lshr (C : am_cx k s0 a0 D J AA p R s m meth c) (hok : am_ok k pc .lshr len = true) (A : am_at s0 D J AA s k P lv st h ls rst H locs) (e1 : am_o1 k .lshr (pc + len) lv st h = some r) (G : am_go s0 D J AA p l e R s m args below meth c k P cells slots h Q r) : W p l e R s m args below meth c H locs cells slots Q (F0 m pc ls rst) := by
  obtain ⟨r0, hd, hro⟩ := am_ok_r hok
  obtain ⟨hn, hr⟩ : len = 1 ∧ r0 = .lshr := by
    have q : (am_smp .lshr && Nat.beq len 1 && decide (r0 = .lshr)) = true := hro
    simp only [Bool.and_eq_true, decide_eq_true_eq] at q
    exact ⟨Nat.eq_of_beq_eq_true q.1.2, q.2⟩
  subst hn; subst hr
  obtain ⟨A1, A2, A3, A4⟩ := A
  change Option.map _ (match st with | .int y :: .long x :: st => some (pc + 1, .long (am_shr x y) :: st, h) | _ => none) = some r at e1
  split at e1
  · rename_i y x st
    obtain ⟨w0, r0, rfl, hv0, B0⟩ := am_vs.c1 A3
    cases (show w0 = .int y from hv0)
    obtain ⟨w1, r1, rfl, hv1, B1⟩ := am_vs.c1 B0
    cases (show w1 = .long x from hv1)
    cases e1
    exact lv_lshr C.1 C.2.1 hd rfl (G.same ⟨A1, A2, ⟨rfl, B1⟩, A4⟩)
  · cases e1
theorem ao_lushr (C : am_cx k s0 a0 D J AA p R s m meth c) (hok : am_ok k pc .lushr len = true) (A : am_at s0 D J AA s k P lv st h ls rst H locs) (e1 : am_o1 k .lushr (pc + len) lv st h = some r) (G : am_go s0 D J AA p l e R s m args below meth c k P cells slots h Q r) : W p l e R s m args below meth c H locs cells slots Q (F0 m pc ls rst) := by
  obtain ⟨r0, hd, hro⟩ := am_ok_r hok
  obtain ⟨hn, hr⟩ : len = 1 ∧ r0 = .lushr := by
    have q : (am_smp .lushr && Nat.beq len 1 && decide (r0 = .lushr)) = true := hro
    simp only [Bool.and_eq_true, decide_eq_true_eq] at q
    exact ⟨Nat.eq_of_beq_eq_true q.1.2, q.2⟩
  subst hn; subst hr
  obtain ⟨A1, A2, A3, A4⟩ := A
  change Option.map _ (match st with | .int y :: .long x :: st => some (pc + 1, .long (am_ushr x y) :: st, h) | _ => none) = some r at e1
  split at e1
  · rename_i y x st
    obtain ⟨w0, r0, rfl, hv0, B0⟩ := am_vs.c1 A3
    cases (show w0 = .int y from hv0)
    obtain ⟨w1, r1, rfl, hv1, B1⟩ := am_vs.c1 B0
    cases (show w1 = .long x from hv1)
    cases e1
    exact lv_lushr C.1 C.2.1 hd rfl (G.same ⟨A1, A2, ⟨rfl, B1⟩, A4⟩)
  · cases e1
theorem ao_ineg (C : am_cx k s0 a0 D J AA p R s m meth c) (hok : am_ok k pc .ineg len = true) (A : am_at s0 D J AA s k P lv st h ls rst H locs) (e1 : am_o1 k .ineg (pc + len) lv st h = some r) (G : am_go s0 D J AA p l e R s m args below meth c k P cells slots h Q r) : W p l e R s m args below meth c H locs cells slots Q (F0 m pc ls rst) := by
  obtain ⟨r0, hd, hro⟩ := am_ok_r hok
  obtain ⟨hn, hr⟩ : len = 1 ∧ r0 = .ineg := by
    have q : (am_smp .ineg && Nat.beq len 1 && decide (r0 = .ineg)) = true := hro
    simp only [Bool.and_eq_true, decide_eq_true_eq] at q
    exact ⟨Nat.eq_of_beq_eq_true q.1.2, q.2⟩
  subst hn; subst hr
  obtain ⟨A1, A2, A3, A4⟩ := A
  change Option.map _ (match st with | .int x :: st => some (pc + 1, .int (-x) :: st, h) | _ => none) = some r at e1
  split at e1
  · rename_i x st
    obtain ⟨w0, r0, rfl, hv0, B0⟩ := am_vs.c1 A3
    cases (show w0 = .int x from hv0)
    cases e1
    exact lv_ineg C.1 C.2.1 hd (G.same ⟨A1, A2, ⟨rfl, B0⟩, A4⟩)
  · cases e1
theorem ao_lneg (C : am_cx k s0 a0 D J AA p R s m meth c) (hok : am_ok k pc .lneg len = true) (A : am_at s0 D J AA s k P lv st h ls rst H locs) (e1 : am_o1 k .lneg (pc + len) lv st h = some r) (G : am_go s0 D J AA p l e R s m args below meth c k P cells slots h Q r) : W p l e R s m args below meth c H locs cells slots Q (F0 m pc ls rst) := by
  obtain ⟨r0, hd, hro⟩ := am_ok_r hok
  obtain ⟨hn, hr⟩ : len = 1 ∧ r0 = .lneg := by
    have q : (am_smp .lneg && Nat.beq len 1 && decide (r0 = .lneg)) = true := hro
    simp only [Bool.and_eq_true, decide_eq_true_eq] at q
    exact ⟨Nat.eq_of_beq_eq_true q.1.2, q.2⟩
  subst hn; subst hr
  obtain ⟨A1, A2, A3, A4⟩ := A
  change Option.map _ (match st with | .long x :: st => some (pc + 1, .long (-x) :: st, h) | _ => none) = some r at e1
  split at e1
  · rename_i x st
    obtain ⟨w0, r0, rfl, hv0, B0⟩ := am_vs.c1 A3
    cases (show w0 = .long x from hv0)
    cases e1
    exact lv_lneg C.1 C.2.1 hd (G.same ⟨A1, A2, ⟨rfl, B0⟩, A4⟩)
  · cases e1
theorem ao_i2l (C : am_cx k s0 a0 D J AA p R s m meth c) (hok : am_ok k pc .i2l len = true) (A : am_at s0 D J AA s k P lv st h ls rst H locs) (e1 : am_o1 k .i2l (pc + len) lv st h = some r) (G : am_go s0 D J AA p l e R s m args below meth c k P cells slots h Q r) : W p l e R s m args below meth c H locs cells slots Q (F0 m pc ls rst) := by
  obtain ⟨r0, hd, hro⟩ := am_ok_r hok
  obtain ⟨hn, hr⟩ : len = 1 ∧ r0 = .i2l := by
    have q : (am_smp .i2l && Nat.beq len 1 && decide (r0 = .i2l)) = true := hro
    simp only [Bool.and_eq_true, decide_eq_true_eq] at q
    exact ⟨Nat.eq_of_beq_eq_true q.1.2, q.2⟩
  subst hn; subst hr
  obtain ⟨A1, A2, A3, A4⟩ := A
  change Option.map _ (match st with | .int x :: st => some (pc + 1, .long (x.toInt64) :: st, h) | _ => none) = some r at e1
  split at e1
  · rename_i x st
    obtain ⟨w0, r0, rfl, hv0, B0⟩ := am_vs.c1 A3
    cases (show w0 = .int x from hv0)
    cases e1
    exact lv_i2l C.1 C.2.1 hd rfl (G.same ⟨A1, A2, ⟨rfl, B0⟩, A4⟩)
  · cases e1
theorem ao_l2i (C : am_cx k s0 a0 D J AA p R s m meth c) (hok : am_ok k pc .l2i len = true) (A : am_at s0 D J AA s k P lv st h ls rst H locs) (e1 : am_o1 k .l2i (pc + len) lv st h = some r) (G : am_go s0 D J AA p l e R s m args below meth c k P cells slots h Q r) : W p l e R s m args below meth c H locs cells slots Q (F0 m pc ls rst) := by
  obtain ⟨r0, hd, hro⟩ := am_ok_r hok
  obtain ⟨hn, hr⟩ : len = 1 ∧ r0 = .l2i := by
    have q : (am_smp .l2i && Nat.beq len 1 && decide (r0 = .l2i)) = true := hro
    simp only [Bool.and_eq_true, decide_eq_true_eq] at q
    exact ⟨Nat.eq_of_beq_eq_true q.1.2, q.2⟩
  subst hn; subst hr
  obtain ⟨A1, A2, A3, A4⟩ := A
  change Option.map _ (match st with | .long x :: st => some (pc + 1, .int (x.toInt32) :: st, h) | _ => none) = some r at e1
  split at e1
  · rename_i x st
    obtain ⟨w0, r0, rfl, hv0, B0⟩ := am_vs.c1 A3
    cases (show w0 = .long x from hv0)
    cases e1
    exact lv_l2i C.1 C.2.1 hd rfl (G.same ⟨A1, A2, ⟨rfl, B0⟩, A4⟩)
  · cases e1
theorem ao_i2c (C : am_cx k s0 a0 D J AA p R s m meth c) (hok : am_ok k pc .i2c len = true) (A : am_at s0 D J AA s k P lv st h ls rst H locs) (e1 : am_o1 k .i2c (pc + len) lv st h = some r) (G : am_go s0 D J AA p l e R s m args below meth c k P cells slots h Q r) : W p l e R s m args below meth c H locs cells slots Q (F0 m pc ls rst) := by
  obtain ⟨r0, hd, hro⟩ := am_ok_r hok
  obtain ⟨hn, hr⟩ : len = 1 ∧ r0 = .i2c := by
    have q : (am_smp .i2c && Nat.beq len 1 && decide (r0 = .i2c)) = true := hro
    simp only [Bool.and_eq_true, decide_eq_true_eq] at q
    exact ⟨Nat.eq_of_beq_eq_true q.1.2, q.2⟩
  subst hn; subst hr
  obtain ⟨A1, A2, A3, A4⟩ := A
  change Option.map _ (match st with | .int x :: st => some (pc + 1, .int (am_i2c x) :: st, h) | _ => none) = some r at e1
  split at e1
  · rename_i x st
    obtain ⟨w0, r0, rfl, hv0, B0⟩ := am_vs.c1 A3
    cases (show w0 = .int x from hv0)
    cases e1
    exact lv_i2c C.1 C.2.1 hd rfl (G.same ⟨A1, A2, ⟨rfl, B0⟩, A4⟩)
  · cases e1
theorem ao_lcmp (C : am_cx k s0 a0 D J AA p R s m meth c) (hok : am_ok k pc .lcmp len = true) (A : am_at s0 D J AA s k P lv st h ls rst H locs) (e1 : am_o1 k .lcmp (pc + len) lv st h = some r) (G : am_go s0 D J AA p l e R s m args below meth c k P cells slots h Q r) : W p l e R s m args below meth c H locs cells slots Q (F0 m pc ls rst) := by
  obtain ⟨r0, hd, hro⟩ := am_ok_r hok
  obtain ⟨hn, hr⟩ : len = 1 ∧ r0 = .lcmp := by
    have q : (am_smp .lcmp && Nat.beq len 1 && decide (r0 = .lcmp)) = true := hro
    simp only [Bool.and_eq_true, decide_eq_true_eq] at q
    exact ⟨Nat.eq_of_beq_eq_true q.1.2, q.2⟩
  subst hn; subst hr
  obtain ⟨A1, A2, A3, A4⟩ := A
  change Option.map _ (match st with | .long y :: .long x :: st => some (pc + 1, .int (lg_cmp x y) :: st, h) | _ => none) = some r at e1
  split at e1
  · rename_i y x st
    obtain ⟨w0, r0, rfl, hv0, B0⟩ := am_vs.c1 A3
    cases (show w0 = .long y from hv0)
    obtain ⟨w1, r1, rfl, hv1, B1⟩ := am_vs.c1 B0
    cases (show w1 = .long x from hv1)
    cases e1
    exact W.lcmp C.1 C.2.1 hd (G.same ⟨A1, A2, ⟨rfl, B1⟩, A4⟩)
  · cases e1
end AM1
