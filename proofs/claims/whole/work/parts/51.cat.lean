/-! A THROWN OBJECT MEETS THE HANDLERS OF A METHOD OF OURS: a row is skipped, or links its class and passes or takes the object -/
section AM9
variable {e : Env} {f : JFrame} {b : Addr} {cell : Cell} {s : State}
/-- one row that stands over the place: its class is linked (it may be for the first time), then asked -/
theorem am_row1 {U : State} {x : ExceptionTableEntry} {ts : List ExceptionTableEntry} {t : ClassId} (hx : covers x f.pc = true) (h0 : x.catchType ≠ 0) (hl : U.vm.ClassLinks e.platform f.method.cls x.catchType t)
    (hcell : U.heap[b]? = some cell) (hobj : ∀ k, cell.vm ≠ .statics k) (hk : ∃ k, U.vm.classes[cell.cls]? = some k) (ht : ∃ k, U.vm.classes[t]? = some k) (Q : Handler → Pre) (E : CtlPost) (d : Bool) (acts : List Action) :
    wp (findHandler.go f b (x :: ts)) Q E e d acts U ↔ (if U.vm.assignable cell.cls t = true then Q (.found x.handlerPc) d acts (U.setVm (U.vm.noted f.method.cls x.catchType (.cls t))) else wp (findHandler.go f b ts) Q E e d acts (U.setVm (U.vm.noted f.method.cls x.catchType (.cls t)))) := by
  have hal : U.vm.Alike (U.vm.noted f.method.cls x.catchType (.cls t)) := (Vm.Alike.refl U.vm).noted _ _ _
  obtain ⟨h1, h2⟩ := (resolveClass_links e.toSetting hl).op (op := VmOp.resolveClass f.method.cls x.catchType) rfl
  obtain ⟨k1, e1⟩ := hk
  obtain ⟨k2, e2⟩ := ht
  obtain ⟨k1', e1', -⟩ := hal.2.2 _ _ e1
  obtain ⟨k2', e2', -⟩ := hal.2.2 _ _ e2
  have has : (U.vm.noted f.method.cls x.catchType (.cls t)).assignable cell.cls t = U.vm.assignable cell.cls t := by rw [hal.assignable]
  simp only [covers] at hx
  cases hq : U.vm.assignable cell.cls t with
  | true =>
    rw [hq] at has
    simp [findHandler.go, hx, h0, h1, h2, hcell, hobj, e1', e2', has, VmOp.dirties, VmOp.acts]
  | false =>
    rw [hq] at has
    simp [findHandler.go, hx, h0, h1, h2, hcell, hobj, e1', e2', has, VmOp.dirties, VmOp.acts]
/-- the rows lead to the handler at hp -/
def am_rws (pl : Platform) (s : State) (d : ClassId) (pc : Nat) (thrown : ClassId) (hp : Nat) : List ExceptionTableEntry → Prop
  | [] => False
  | y :: ys => (covers y pc = false ∧ am_rws pl s d pc thrown hp ys) ∨ (covers y pc = true ∧ y.catchType ≠ 0 ∧ ∃ t, s.vm.ClassLinks pl d y.catchType t ∧ ((s.vm.assignable thrown t = true ∧ y.handlerPc = hp) ∨ (s.vm.assignable thrown t = false ∧ am_rws pl s d pc thrown hp ys)))
theorem am_rws_go (hobj : ∀ k, cell.vm ≠ .statics k) (hk : ∃ k, s.vm.classes[cell.cls]? = some k) {hp : Nat} : ∀ (rows : List ExceptionTableEntry) (U : State), am_rws e.platform s f.method.cls f.pc cell.cls hp rows → s.WarmedH U.vm → U.heap[b]? = some cell →
    ∃ vm', s.WarmedH vm' ∧ ∀ (Q : Handler → Pre) (E : CtlPost) (d : Bool) (acts : List Action), wp (findHandler.go f b rows) Q E e d acts U ↔ Q (.found hp) d acts (U.setVm vm')
  | [], _, h, _, _ => h.elim
  | y :: ys, U, h, hW, hc => by
    rcases h with ⟨h1, h2⟩ | ⟨h1, h2, t, hl, h3⟩
    · obtain ⟨vm', w, g⟩ := am_rws_go hobj hk ys U h2 hW hc
      exact ⟨vm', w, fun Q E d acts => by rw [W.findHandler_go_skip h1]; exact g Q E d acts⟩
    · obtain ⟨k0, hk0⟩ := hk
      obtain ⟨k0', hk0', -⟩ := hW.alike.2.2 _ _ hk0
      obtain ⟨dk, _, _, kt, hd, _, _, _, _, hkt, _, hopen⟩ := hl.here
      obtain ⟨kt', hkt', -⟩ := hW.alike.2.2 _ _ hkt
      have hN : s.WarmedH (U.vm.noted f.method.cls y.catchType (.cls t)) := hW.noted hd hopen (State.rightAt_cls hl)
      have key := am_row1 (ts := ys) h1 h2 (hW.classLinks hl) hc hobj ⟨k0', hk0'⟩ ⟨kt', hkt'⟩
      rcases h3 with ⟨h3, rfl⟩ | ⟨h3, h4⟩
      · refine ⟨_, hN, fun Q E d acts => ?_⟩
        rw [key, if_pos (by rw [hW.alike.assignable]; exact h3)]
      · obtain ⟨vm', w, g⟩ := am_rws_go hobj ⟨k0, hk0⟩ ys (U.setVm (U.vm.noted f.method.cls y.catchType (.cls t))) h4 hN hc
        refine ⟨vm', w, fun Q E d acts => ?_⟩
        rw [key, if_neg (by rw [hW.alike.assignable, h3]; decide)]
        exact g Q E d acts
variable {p : Program} {l : Launch} {R : Room} {m : MethodId} {args : Array Value} {below : List Frame} {meth : Method} {c : Code} {T : State} {locs : List Loc} {cells slots : Nat}
/-- the method catches -/
theorem am_catch (X : Stand p l e R s m args below meth c T locs cells slots) {g : JFrame} (hg : g.method = m) (hc : T.heap[b]? = some cell) (hobj : cell.vm.isStatics = false) (hk : ∃ k, s.vm.classes[cell.cls]? = some k) {hp : Nat} (hr : am_rws e.platform s m.cls g.pc cell.cls hp c.exceptionTable.toList) :
    ∃ vm', Stand p l e R s m args below meth c (T.setVm vm') locs cells slots ∧ ∀ target, Steps p.tables e below ((T.setVm vm').setTop { g with pc := hp, stack := [.ref b] }) target → Steps p.tables e below ((T.setTop g).pushFrame (.throwing b)) target := by
  subst hg
  have hvm : ((T.setTop g).pushFrame (.throwing b)).vm = T.vm := Stand.throwing_vm T g b
  have hhp : ((T.setTop g).pushFrame (.throwing b)).heap = T.heap := Stand.throwing_heap T g b
  obtain ⟨vm', hW, hq⟩ := am_rws_go (e := e) (f := g) (b := b) (cell := cell) (s := s) (fun k q => by rw [q] at hobj; cases hobj) hk c.exceptionTable.toList ((T.setTop g).pushFrame (.throwing b)) hr (by rw [hvm]; exact X.warmed) (by rw [hhp]; exact hc)
  refine ⟨vm', X.noted hW, fun target hrest => ?_⟩
  have hf : ∀ (Q : Handler → Pre) (E : CtlPost) (d : Bool) (acts : List Action), wp (findHandler g b) Q E e d acts ((T.setTop g).pushFrame (.throwing b)) ↔ Q (.found hp) d acts (((T.setTop g).pushFrame (.throwing b)).setVm vm') := by
    intro Q E d acts
    rw [W.findHandler_eq (meth := meth) (code := c) (by rw [hvm]; exact X.method') X.code]
    exact hq Q E d acts
  obtain ⟨g₀, hg⟩ := Option.isSome_iff_exists.mp X.here.top
  obtain ⟨r, hr2⟩ := State.topJava?_eq_some.mp hg
  have hstep : (stepThrowing e ((T.setTop g).pushFrame (.throwing b)) b (.java g :: T.frames.tail)).1 = (((T.setTop g).pushFrame (.throwing b)).setVm vm').setFrames (.java { g with pc := hp, stack := [.ref b] } :: T.frames.tail) := by
    simp only [stepThrowing, searchFrame, vmDo]
    generalize hz : Sem.go _ e false [] _ = res
    obtain ⟨as, rfl, ha⟩ := Sem.eq_ok_of hz (a := Handler.found hp) (s' := ((T.setTop g).pushFrame (.throwing b)).setVm vm') (acts' := []) (by simp [hf _ _ _ _])
    rfl
  obtain ⟨hgo, hw⟩ := X.here.throwing b
  refine Steps.head hgo hw ?_
  rw [stepThread_throwing (frames_entered X.here.top _), hstep]
  have e1 : (((T.setTop g).pushFrame (.throwing b)).setVm vm').setFrames (.java { g with pc := hp, stack := [.ref b] } :: T.frames.tail) = (T.setVm vm').setTop { g with pc := hp, stack := [.ref b] } := by
    have hr3 : (T.setVm vm').frames = .java g₀ :: r := hr2
    rw [State.setTop_of_frames _ hr3, State.pushFrame, State.setTop_of_frames _ hr2, State.setFrames_setFrames, hr2]
    show ((T.setVm vm').setFrames _).setFrames _ = _
    rw [State.setFrames_setFrames]
    rfl
  rw [e1]
  exact hrest
end AM9
