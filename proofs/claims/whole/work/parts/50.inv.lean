/-! A CALL, whatever it comes to -/
section AM8
variable {p : Program} {l : Launch} {e : Env} {R : Room} {s : State} {m : MethodId} {args : Array Value} {below : List Frame} {meth : Method} {c : Code} {T : State} {locs : List Loc} {cells slots : Nat}
theorem am_inv (X : Stand p l e R s m args below meth c T locs cells slots) {y : MethodName} {S : Spec} {Pc : Array Value → State → Prop} {Q : Array Value → State → Outcome → State → Prop} (hM : MetFree l y S Pc (fun _ _ _ _ _ => True) Q)
    {mk : MethodId} {methY : Method} {cY : Code} {kY : Class} {g : JFrame} {ig : Instr} {len : Nat} {a : Array Value} (hg : g.method = m) (hsize : g.locals.size = c.maxLocals) (hdg : decode c.code g.pc = .ok (ig, len)) (hW : 2 * g.monitorRoom + (g.stack.map fun v => v.category).sum ≤ 8)
    (hn : T.methodNamed? y = some mk) (hmY : T.vm.method? mk = some methY) (hcY : methY.code = some cY) (hkY : T.vm.classes[mk.cls]? = some kY) (hinit : kY.init = .initialized)
    (hframes : S.room.frames + 1 ≤ R.frames) (hlocals : 8 + (cY.maxLocals + 11) + S.room.locals ≤ R.locals) (h4 : cells + S.room.cells ≤ R.cells) (h5 : slots + S.room.slots ≤ R.slots) (h1 : S.pre.before a T = true) (hP : Pc a (T.calling g mk a)) :
    ∃ (oc : Outcome) (t : State), Steps p.tables e below (doInvoke e (T.setTop g) [] mk a).1 t ∧ Ended t (.java g :: T.frames.tail) oc ∧ Q a (T.calling g mk a) oc t := by
  have h : At T g.method c below := by rw [hg]; exact X.here
  have happ : S.appliesLoose y e.platform (T.calling g mk a) = true :=
    Spec.appliesLoose_calling (g := g) h hdg hn hkY hinit
      (X.room_calling (g := g) (R' := S.room) hsize hmY hcY hframes (by omega) h4 h5) h1
  obtain ⟨mid, hmid⟩ := h.above
  have hfr : (T.setTop g).frames = (.java g :: mid) ++ below := by rw [State.frames_setTop' g h.top, hmid]; rfl
  obtain ⟨o, t, hsteps, -, hend, hq⟩ := Steps.callFree hM p X.admits X.cas X.clock (acts := []) hfr happ hP trivial
  rw [State.frames_setTop' g h.top] at hend
  exact ⟨o, t, hsteps, hend, hq⟩
theorem am_back (X : Stand p l e R s m args below meth c T locs cells slots) {mk : MethodId} {g : JFrame} {ig : Instr} {len : Nat} {a : Array Value} (hg : g.method = m) (hdg : decode c.code g.pc = .ok (ig, len))
    {t : State} {L : List Loc} {k n : Nat} (hWt : (T.calling g mk a).WarmedH t.vm) (hsb : (T.calling g mk a).sameButNew ({ t with vm := (T.calling g mk a).vm } : State) L k n) :
    ∃ T' : State, T'.heap = t.heap ∧ T'.vm = t.vm ∧ Stand p l e R s m args below meth c T' (locs ++ L) (cells + k) (slots + n) ∧
      (∀ v, Ended t (.java g :: T.frames.tail) (.returned v) → t = T'.setTop { g with pc := g.pc + len, stack := v.toList ++ g.stack }) ∧
      (∀ b, Ended t (.java g :: T.frames.tail) (.threw b) → t = (T'.setTop g).pushFrame (.throwing b)) := by
  subst hg
  have h : At T g.method c below := X.here
  obtain ⟨e2, q2, q3, q4, q5, q6⟩ := hsb
  have e3 : t = ({ (T.calling g mk a).setFrames t.frames with heap := t.heap, slotsUsed := t.slotsUsed } : State).setVm t.vm := by
    have : t = ({ t with vm := (T.calling g mk a).vm } : State).setVm t.vm := rfl
    rw [e2] at this
    exact this
  have hW' : T.WarmedH t.vm := hWt
  obtain ⟨g₀, hg0⟩ := Option.isSome_iff_exists.mp h.top
  obtain ⟨r, hr⟩ := State.topJava?_eq_some.mp hg0
  have hr' : (({ T with heap := t.heap, slotsUsed := t.slotsUsed } : State).setVm t.vm).frames = .java g₀ :: r := hr
  have hsame : T.sameButNew ({ T with heap := t.heap, slotsUsed := t.slotsUsed } : State) L k n := by
    refine ⟨?_, q2, q3, q4, q5, q6⟩
    obtain ⟨th, ht, -⟩ := State.frames_cons hr
    show ({ T with heap := t.heap, slotsUsed := t.slotsUsed } : State) = { T.setFrames T.frames with heap := t.heap, slotsUsed := t.slotsUsed }
    rw [State.setFrames_self ht]
  refine ⟨({ T with heap := t.heap, slotsUsed := t.slotsUsed } : State).setVm t.vm, rfl, rfl,
    ⟨X.admits, X.cas, X.clock, X.frames, X.room, X.hears, X.method, X.code, (X.here.setHeapUsed t.heap t.slotsUsed).setVm hW'.alike, X.tail, State.WarmedH.trans X.warmed hW', X.limits, X.bytes, X.same.trans (hsame.setVm s.vm)⟩, ?_, ?_⟩
  · intro v hend
    obtain ⟨c₂, i₂, len₂, hc₂, hd₂, hf₂⟩ := hend
    have hcc : c₂ = c := by
      have h1 : t.code? g.method = T.code? g.method := by
        rw [State.code?_eq, State.code?_eq, hW'.alike.method?]
      exact Option.some.inj (hc₂.symm.trans (h1.trans h.code))
    subst hcc
    have hlen : len₂ = len := by rw [hdg] at hd₂; cases hd₂; rfl
    subst hlen
    refine e3.trans ?_
    rw [hf₂, State.calling_eq h.top, State.setFrames_setFrames, State.setTop_of_frames _ hr', hr]
    rfl
  · intro b hend
    have hf₂ : t.frames = .throwing b :: .java g :: T.frames.tail := hend
    refine e3.trans ?_
    rw [hf₂, State.calling_eq h.top, State.setFrames_setFrames, State.pushFrame, State.frames_setTop _ hr', State.setTop_of_frames _ hr', State.setFrames_setFrames, hr]
    rfl
end AM8
