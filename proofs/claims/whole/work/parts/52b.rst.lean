/-! THE SAME WALK, HELD AGAINST WHERE IT STANDS NOW: as if the method were entered here -/
section AM12
variable {p : Program} {l : Launch} {e : Env} {R : Room} {s : State} {m : MethodId} {args : Array Value} {below : List Frame} {meth : Method} {c : Code} {T : State} {locs : List Loc} {cells slots : Nat}
def am_here (T : State) (m : MethodId) (args : Array Value) (below : List Frame) : State := T.setFrames (.invoking m args :: below)
def am_left (R : Room) (cells slots : Nat) : Room := { frames := R.frames, locals := R.locals, cells := R.cells - cells, slots := R.slots - slots }
theorem am_restart (X : Stand p l e R s m args below meth c T locs cells slots) (hc : cells ≤ R.cells) (hs : slots ≤ R.slots) : Stand p l e (am_left R cells slots) (am_here T m args below) m args below meth c T [] 0 0 := by
  obtain ⟨g₀, hg⟩ := Option.isSome_iff_exists.mp X.here.top
  obtain ⟨r, hr⟩ := State.topJava?_eq_some.mp hg
  have hcur : T.cur < T.threads.size := State.cur_lt_of_frames hr
  have hf : (am_here T m args below).frames = .invoking m args :: below := State.frames_setFrames _ hcur
  have hm : (am_here T m args below).vm.method? m = some meth := X.method'
  obtain ⟨th, ht, -⟩ := State.frames_cons hf
  refine ⟨X.admits, X.cas, X.clock, hf, ?_, ?_, hm, X.code, X.here, X.tail, State.WarmedH.refl _, (State.stackLimits_setFrames _ _ _).symm, (State.stackBytes_setFrames _ _).symm, ?_⟩
  · have h1 := State.localsInUse_invoking hf hm X.code
    have h2 := State.localsInUse_invoking X.frames X.method X.code
    have hr0 := X.room
    have hcap := X.cellsAbove (n := R.cells - cells) (by omega)
    have hsap := X.slotsAbove (n := R.slots - slots) (by omega)
    have hbk := X.book
    have hl1 : (e.platform.stackLimits (am_here T m args below).me) = e.platform.stackLimits s.me := (State.stackLimits_setFrames _ _ _).trans X.limits
    have hb1 : (am_here T m args below).me.stackBytes = s.me.stackBytes := (State.stackBytes_setFrames _ _).trans X.bytes
    simp only [State.hasRoom, Bool.and_eq_true, decide_eq_true_eq] at hr0 ⊢
    rw [h1, hf, hl1, hb1]
    rw [h2, X.frames] at hr0
    obtain ⟨⟨⟨⟨q1, q2⟩, q3⟩, q4⟩, q5⟩ := hr0
    exact ⟨⟨⟨⟨q1, q2⟩, hcap⟩, hsap⟩, hbk⟩
  · have hh := X.hears
    have hal := X.warmed.alike
    unfold State.hears at hh ⊢
    split
    · rename_i g r
      simp only at hh
      rw [State.code?_eq] at hh ⊢
      rw [show (am_here T m args (.java g :: r)).vm.method? g.method = s.vm.method? g.method from hal.method? _]
      exact hh
    · rfl
    · rfl
    · rename_i h1 h2 h3
      rw [show (am_here T m args below).vm.method? m = s.vm.method? m from hal.method? _]
      split at hh
      · exact absurd rfl (h1 _ _)
      · exact absurd rfl (h2 _ _)
      · exact absurd rfl (h3 _ _)
      · exact hh
  · have h := (State.sameButNew.refl (am_here T m args below) ht).setFrames T.frames (by show T.cur < (T.setFrames _).threads.size; simpa [State.setFrames] using hcur)
    have e1 : (am_here T m args below).setFrames T.frames = T := by
      obtain ⟨tt, htt, -⟩ := State.frames_cons hr
      rw [am_here, State.setFrames_setFrames, State.setFrames_self htt]
    rw [e1] at h
    exact h
/-- from here on, then from the entry on -/
theorem am_joined (X : Stand p l e R s m args below meth c T locs cells slots) {U : State} {L : List Loc} {k n : Nat} (h : (am_here T m args below).sameButNew ({ U with vm := (am_here T m args below).vm } : State) L k n) : s.sameButNew ({ U with vm := s.vm } : State) (locs ++ L) (cells + k) (slots + n) := by
  obtain ⟨g₀, hg⟩ := Option.isSome_iff_exists.mp X.here.top
  obtain ⟨r, hr⟩ := State.topJava?_eq_some.mp hg
  obtain ⟨e2, q2, q3, q4, q5, q6⟩ := h
  have h2 : T.sameButNew ({ U with vm := T.vm } : State) L k n := by
    refine ⟨?_, q2, q3, q4, q5, q6⟩
    refine Eq.trans e2 ?_
    rw [am_here, State.setFrames_setFrames]
    rfl
  exact X.same.trans (h2.setVm s.vm)
/-- nothing that was there has changed -/
theorem am_unmoved {S U : State} {k n : Nat} (h : S.sameButNew U [] k n) {q : Nat} (hq : q < S.heap.size) : U.heap[q]? = S.heap[q]? := by
  obtain ⟨-, -, -, -, -, h6⟩ := h
  have hc : S.heap[q]? = some S.heap[q] := Array.getElem?_eq_getElem hq
  obtain ⟨c', g1, g2, g3, g4⟩ := h6 q _ hc
  rw [g1, hc]
  congr 1
  have : c'.slots = S.heap[q].slots := Array.ext_getElem? fun i => g4 i (by simp)
  rw [g2, this]
theorem am_unmoved2 {S U : State} {L : List Loc} {k n : Nat} (h : S.sameButNew U L k n) {q : Nat} (hL : ∀ x ∈ L, x.base ≠ q) (hq : q < S.heap.size) : U.heap[q]? = S.heap[q]? := by
  obtain ⟨-, -, -, -, -, h6⟩ := h
  have hc : S.heap[q]? = some S.heap[q] := Array.getElem?_eq_getElem hq
  obtain ⟨c', g1, g2, g3, g4⟩ := h6 q _ hc
  rw [g1, hc]
  congr 1
  have : c'.slots = S.heap[q].slots := Array.ext_getElem? fun i => g4 i (fun z => hL _ z rfl)
  rw [g2, this]
end AM12
