/-! CALLS OF OURS: the words on a method; the four ways in which it is called -/
def am_cword (j : Nat) : Jvm.Cond := match am_hl j with
  | [] => .code (am_y j) (am_by j) (am_ml j) (am_rt j)
  | hs => .codeWith (am_y j) (am_by j) (am_ml j) (am_rt j) hs
def am_okm (j : Nat) : Bool := am_wt (am_cw j) (am_cword j) && am_wt (am_wi j) (.initialized (am_y j).cls) && plainName (am_y j).cls && decide ((am_y j).cls ≠ "java/lang/invoke/MethodHandle") && decide ((am_y j).cls ≠ "java/lang/invoke/VarHandle") && Nat.ble (am_ml j) 21 && decide ((am_hl j = []) ↔ am_nh j = true) &&
  (match parseMethodDescriptor (am_y j).desc with
  | some d => (match am_rk j with
    | some ci => Nat.beq (am_np j) (d.parameters.length + 1) && am_wt (am_wq j) (.instanceMethod (am_y j)) && decide (am_nm ci = (am_y j).cls) && cond (decide ((am_y j).name = "<init>")) (decide (am_hl j = []) && decide (am_rt j = none)) (am_wt (am_wz j) (.selects (am_y j).cls (am_y j) (am_y j)))
    | none => Nat.beq (am_np j) d.parameters.length && am_wt (am_wq j) (.static (am_y j)))
  | none => false)
def am_okc (k pc j len : Nat) : Bool := Nat.ble 1 j && Nat.ble j 154 && (match decode (am_by k) pc with
  | .ok (.invokevirtual i, n) => Nat.beq n 3 && Nat.beq len 3 && (am_rk j).isSome && decide ((am_y j).name ≠ "<init>") && am_wt (am_ix k i) (.methodLink (am_y k).cls i (am_y j))
  | .ok (.invokestatic i, n) => Nat.beq n 3 && Nat.beq len 3 && (am_rk j).isNone && am_wt (am_ix k i) (.methodLink (am_y k).cls i (am_y j))
  | .ok (.invokespecial i, n) => Nat.beq n 3 && Nat.beq len 3 && (am_rk j).isSome && decide ((am_y j).name = "<init>") && (am_wt (am_ix k i) (.methodLink (am_y k).cls i (am_y j)) || am_wt (am_ix k i) (.methodLinkNest (am_y k).cls i (am_y j) "MateProblems"))
  | _ => false)
theorem am_meth {j : Nat} {args : Array Value} {s : State} (h : (am_cword j).before args s = true) : ∃ mk methM cM, s.methodNamed? (am_y j) = some mk ∧ s.vm.method? mk = some methM ∧ methM.code = some cM ∧ cM.code = am_by j ∧ cM.maxLocals = am_ml j ∧ methM.sig.returnType = am_rt j ∧ methM.locks = false ∧ parseMethodDescriptor (am_y j).desc = some methM.sig ∧ cM.exceptionTable.toList.map (fun h => (h.startPc, h.endPc, h.handlerPc, h.catchType)) = am_hl j := by
  unfold am_cword at h
  split at h
  · rename_i hh
    obtain ⟨mk, hn⟩ := Cond.code_named h
    obtain ⟨methM, cM, h1, h2, h3, h4, h5, h6, h7, h8⟩ := Cond.code_spec hn h
    refine ⟨mk, methM, cM, hn, h1, h2, h3, h4, h5, h6, h8, ?_⟩
    have : cM.exceptionTable = #[] := by simpa [Array.isEmpty] using h7
    rw [this, hh]
    rfl
  · obtain ⟨mk, methM, cM, hn, h1, h2, h3, h4, h5, h6, h7, h8⟩ := Cond.codeWith_spec h
    exact ⟨mk, methM, cM, hn, h1, h2, h3, h4, h6, h7, h8, h5⟩
section AM13
variable {k : Nat} {s0 : State} {a0 : Array Value} {D : va_G} {J : FieldType → ClassId} {AA : Nat → Prop}
variable {p : Program} {l : Launch} {e : Env} {R : Room} {s : State} {m : MethodId} {args : Array Value} {below : List Frame} {meth : Method} {c : Code} {T : State} {locs : List Loc} {cells slots : Nat}
/-- the call is linked: what is left is the invocation itself -/
def am_LK (p : Program) (l : Launch) (e : Env) (R : Room) (s : State) (m : MethodId) (args : Array Value) (below : List Frame) (meth : Method) (c : Code) (T : State) (locs : List Loc) (cells slots : Nat) (g : JFrame) (rest : List Value) (y : MethodName) (av : Array Value) : Prop :=
  ∃ (vm₁ : Vm) (mk : MethodId), Stand p l e R s m args below meth c (T.setVm vm₁) locs cells slots ∧ s.methodNamed? y = some mk ∧
    ∀ target, Steps p.tables e below (doInvoke e ((T.setVm vm₁).setTop { g with stack := rest }) [] mk av).1 target → Steps p.tables e below (T.setTop g) target
theorem am_okm_gw {j : Nat} : am_gw (am_cword j) = true := by
  unfold am_cword
  split <;> rfl
theorem am_lnkV {j i : Nat} (C : am_cx k s0 a0 D J AA p R s m meth c) (hm : am_okm j = true) (X : Stand p l e R s m args below meth c T locs cells slots) (hrk : (am_rk j).isSome = true) (hni : (am_y j).name ≠ "<init>") (hl : am_wt (am_ix k i) (.methodLink (am_y k).cls i (am_y j)) = true)
    {b : Addr} {cellB : Cell} (hcell : T.heap[b]? = some cellB) (hobj : cellB.vm.isStatics = false) (hcls : s.vm.findClass (am_y j).cls = some cellB.cls) {g : JFrame} (hg : g.method = m) {as rest : List Value} (hlen : as.length + 1 = am_np j) (hstack : g.stack = as.reverse ++ .ref b :: rest) (hdg : decode c.code g.pc = .ok (.invokevirtual i, 3)) :
    am_LK p l e R s m args below meth c T locs cells slots g rest (am_y j) (Value.ref b :: as).toArray := by
  obtain ⟨ci, hci⟩ := Option.isSome_iff_exists.mp hrk
  unfold am_okm at hm
  obtain ⟨hm, h8⟩ := am_b2 hm
  obtain ⟨hm, -⟩ := am_b2 hm
  obtain ⟨hm, -⟩ := am_b2 hm
  obtain ⟨hm, h5⟩ := am_b2 hm
  obtain ⟨hm, h4⟩ := am_b2 hm
  obtain ⟨hm, -⟩ := am_b2 hm
  obtain ⟨h1, h2⟩ := am_b2 hm
  have W0 := C.2.2.2.2.2.1
  have B := C.2.2.2.2.1.1
  obtain ⟨mk, methM, cM, hn, g1, g2, -, -, -, -, g8, -⟩ := am_meth (am_word (args := args) W0 am_okm_gw (B _ (am_wt_mem h1)))
  rw [g8, hci] at h8
  simp only [decide_eq_false hni, cond_false] at h8
  obtain ⟨h8, h9⟩ := am_b2 h8
  obtain ⟨h8, -⟩ := am_b2 h8
  obtain ⟨h6, h7⟩ := am_b2 h8
  obtain ⟨mk', methM', hn', hm', hst, hab⟩ := Cond.instanceMethod_spec (C.word (args := args) (am_wt_mem h7) rfl)
  cases hn.symm.trans hn'
  cases g1.symm.trans hm'
  have hy : (am_y j).cls ≠ "java/lang/invoke/MethodHandle" ∧ (am_y j).cls ≠ "java/lang/invoke/VarHandle" := ⟨of_decide_eq_true h4, of_decide_eq_true h5⟩
  obtain ⟨c2, r2, m2, q1, q2, q3, q4, kP, hkP, hkPi⟩ := Cond.selects_spec (C.word (args := args) (am_wt_mem h9) rfl)
  cases hcls.symm.trans q1
  cases (State.methodFound?_of_named hn hy).symm.trans q2
  cases hn.symm.trans q3
  have hsel : selectMethod e.platform s.vm cellB.cls mk = .method mk := by rw [Launch.admits_selectMethod X.admits]; exact q4
  have hl' : as.length = methM.sig.parameters.length := by have := Nat.eq_of_beq_eq_true h6; omega
  obtain ⟨vm₁, X₁, st⟩ := X.invokevirtual C.1 C.2.2.2.1 (C.word (am_wt_mem hl) rfl) hn g1 hst hkP hkPi hy (a := b) (cell := cellB) hcell (fun z h => by rw [h] at hobj; cases hobj) hsel g1 hab hkP hkPi (g := g) hg (argsL := as) (rest := rest) hl' hstack hdg
  exact ⟨vm₁, mk, X₁, hn, fun target h => st _ fun acts => by rw [doInvoke_state]; exact h⟩
theorem am_lnkS {j i : Nat} (C : am_cx k s0 a0 D J AA p R s m meth c) (hm : am_okm j = true) (X : Stand p l e R s m args below meth c T locs cells slots) (hrk : (am_rk j).isNone = true) (hl : am_wt (am_ix k i) (.methodLink (am_y k).cls i (am_y j)) = true)
    {g : JFrame} (hg : g.method = m) {as rest : List Value} (hlen : as.length = am_np j) (hstack : g.stack = as.reverse ++ rest) (hdg : decode c.code g.pc = .ok (.invokestatic i, 3)) :
    am_LK p l e R s m args below meth c T locs cells slots g rest (am_y j) as.toArray := by
  have hci : am_rk j = none := by simpa using hrk
  unfold am_okm at hm
  obtain ⟨hm, h8⟩ := am_b2 hm
  obtain ⟨hm, -⟩ := am_b2 hm
  obtain ⟨hm, -⟩ := am_b2 hm
  obtain ⟨hm, h5⟩ := am_b2 hm
  obtain ⟨hm, h4⟩ := am_b2 hm
  obtain ⟨hm, -⟩ := am_b2 hm
  obtain ⟨h1, h2⟩ := am_b2 hm
  have W0 := C.2.2.2.2.2.1
  have B := C.2.2.2.2.1.1
  obtain ⟨mk, methM, cM, hn, g1, g2, -, -, -, -, g8, -⟩ := am_meth (am_word (args := args) W0 am_okm_gw (B _ (am_wt_mem h1)))
  rw [g8, hci] at h8
  simp only at h8
  obtain ⟨h6, h7⟩ := am_b2 h8
  have hy : (am_y j).cls ≠ "java/lang/invoke/MethodHandle" ∧ (am_y j).cls ≠ "java/lang/invoke/VarHandle" := ⟨of_decide_eq_true h4, of_decide_eq_true h5⟩
  have hst : methM.isStatic = true := Cond.static_spec hn g1 (C.word (args := args) (am_wt_mem h7) rfl)
  obtain ⟨kP, hkP, -⟩ := className_of_methodNamed hn
  have hin : kP.init = .initialized := Cond.initialized_spec (findClass_of_methodNamed hn) hkP (C.word (args := args) (am_wt_mem h2) rfl)
  have hl' : as.length = methM.sig.parameters.length := by have := Nat.eq_of_beq_eq_true h6; omega
  obtain ⟨vm₁, X₁, st⟩ := X.invokestatic C.1 C.2.2.2.1 (C.word (am_wt_mem hl) rfl) hn g1 hst hkP hin hy (g := g) hg (argsL := as) (rest := rest) hl' hstack hdg
  exact ⟨vm₁, mk, X₁, hn, fun target h => st _ fun acts => by rw [doInvoke_state]; exact h⟩
theorem am_lnkI {j i : Nat} (C : am_cx k s0 a0 D J AA p R s m meth c) (hm : am_okm j = true) (X : Stand p l e R s m args below meth c T locs cells slots) (hrk : (am_rk j).isSome = true) (hni : (am_y j).name = "<init>") (hl : am_wt (am_ix k i) (.methodLink (am_y k).cls i (am_y j)) = true ∨ am_wt (am_ix k i) (.methodLinkNest (am_y k).cls i (am_y j) "MateProblems") = true)
    {b : Addr} {g : JFrame} (hg : g.method = m) {as rest : List Value} (hlen : as.length + 1 = am_np j) (hstack : g.stack = as.reverse ++ .ref b :: rest) (hdg : decode c.code g.pc = .ok (.invokespecial i, 3)) :
    am_LK p l e R s m args below meth c T locs cells slots g rest (am_y j) (Value.ref b :: as).toArray := by
  obtain ⟨ci, hci⟩ := Option.isSome_iff_exists.mp hrk
  unfold am_okm at hm
  obtain ⟨hm, h8⟩ := am_b2 hm
  obtain ⟨hm, -⟩ := am_b2 hm
  obtain ⟨hm, -⟩ := am_b2 hm
  obtain ⟨hm, h5⟩ := am_b2 hm
  obtain ⟨hm, h4⟩ := am_b2 hm
  obtain ⟨hm, -⟩ := am_b2 hm
  obtain ⟨h1, h2⟩ := am_b2 hm
  have W0 := C.2.2.2.2.2.1
  have B := C.2.2.2.2.1.1
  have hw := am_word (args := args) W0 am_okm_gw (B _ (am_wt_mem h1))
  obtain ⟨mk, methM, cM, hn, g1, g2, -, -, -, -, g8, -⟩ := am_meth hw
  rw [g8, hci] at h8
  simp only [decide_eq_true hni, cond_true] at h8
  obtain ⟨h8, h10⟩ := am_b2 h8
  obtain ⟨h9, h10⟩ := am_b2 h10
  obtain ⟨h8, -⟩ := am_b2 h8
  obtain ⟨h6, h7⟩ := am_b2 h8
  have hy : (am_y j).cls ≠ "java/lang/invoke/MethodHandle" ∧ (am_y j).cls ≠ "java/lang/invoke/VarHandle" := ⟨of_decide_eq_true h4, of_decide_eq_true h5⟩
  have hcode : (Jvm.Cond.code (am_y j) (am_by j) (am_ml j) none).before args s = true := by
    unfold am_cword at hw
    rw [of_decide_eq_true h9, of_decide_eq_true h10] at hw
    exact hw
  have hpl : e.platform.magicAccessors = ({} : Platform).magicAccessors := by rw [X.admits.platform]
  have hl' : ∀ sig, parseMethodDescriptor (am_y j).desc = some sig → as.length = sig.parameters.length := fun sig hs => by
    rw [g8] at hs
    cases hs
    have := Nat.eq_of_beq_eq_true h6
    omega
  subst hg
  have hinst := C.word (args := args) (am_wt_mem h7) rfl
  rcases hl with hl | hl
  · obtain ⟨mk', methM', cM', kP, vm₁, hn', -, -, -, -, -, -, -, hW₁, st⟩ := Steps.initColdArgs (e := e) X.here C.1 X.warmed hpl C.2.2.2.1 hni hy (C.word (am_wt_mem hl) rfl) hinst hcode (f := g) rfl hl' hstack hdg
    cases hn.symm.trans hn'
    exact ⟨vm₁, mk, X.noted hW₁, hn, fun target h => st _ fun acts => by rw [doInvoke_state]; exact h⟩
  · have hw2 : va_Nw (.methodLinkNest (am_y k).cls i (am_y j) "MateProblems") s0 := va_Nw.of rfl (B _ (am_wt_mem hl))
    obtain ⟨mk', methM', cM', kP, vm₁, hn', -, -, -, -, -, -, -, hW₁, st⟩ := Steps.initColdArgsNest (e := e) X.here C.1 X.warmed hpl C.2.2.2.1 hni hy (va_Nw.use rfl (hw2.warmM W0)) hinst hcode (f := g) rfl hl' hstack hdg
    cases hn.symm.trans hn'
    exact ⟨vm₁, mk, X.noted hW₁, hn, fun target h => st _ fun acts => by rw [doInvoke_state]; exact h⟩
end AM13
