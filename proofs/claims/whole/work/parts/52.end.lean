/-! WHERE A METHOD ENDS -/
/-- the heap as the abstract one has it -/
def am_hw (s0 : State) (D : va_G) (J : FieldType → ClassId) (P : am_P) (h : am_H) (H : Heap) : Prop :=
  am_z0 s0 P h.1 ∧ am_old s0 H ∧ ∃ ws, am_wr J P h ws ∧ va_P D am_cls ws H ∧ va_D (am_A s0) ws
/-- the answer, or what was thrown -/
def am_oc (s0 : State) (P : am_P) (v : Option Value ⊕ Nat) (oc : Outcome) (H : Heap) : Prop := match v with
  | .inl none => oc = .returned none
  | .inl (some v) => ∃ w, am_vr P v w ∧ oc = .returned (some w)
  | .inr e => e < 4 ∧ ∃ (b : Addr) (cell : Cell), oc = .threw b ∧ H[b]? = some cell ∧ cell.vm.isStatics = false ∧ s0.vm.findClass (am_xn e) = some cell.cls
def am_E (s0 : State) (D : va_G) (J : FieldType → ClassId) (P : am_P) (h : am_H) (o : am_O) (s : State) (oc : Outcome) (t : State) : Prop :=
  (∃ P', am_px P P' ∧ am_hw s0 D J P' o.2 t.heap ∧ am_oc s0 P' o.1 oc t.heap ∧ ∀ x ∈ P'.2.1 ++ P'.2.2, x ∈ P.2.1 ++ P.2.2 ∨ s.heap.size ≤ x) ∧ s.WarmedH t.vm ∧ ∃ (L : List Loc), s.sameButNew ({ t with vm := s.vm } : State) L (o.2.2.2.2.1 - h.2.2.2.1) (o.2.2.2.2.2 - h.2.2.2.2) ∧
    ∀ x ∈ L, x.base ∈ P.2.1 ++ P.2.2 ∨ s.heap.size ≤ x.base
def am_Z (s0 : State) (D : va_G) (J : FieldType → ClassId) (P : am_P) (h : am_H) (o : am_O) (s : State) (below : List Frame) : State → Prop :=
  fun t => ∃ oc, t.status = .running ∧ Ended t below oc ∧ am_E s0 D J P h o s oc t
/-- the cells that may change since the entry -/
def am_AA (P : am_P) (s : State) : Nat → Prop := fun q => q ∈ P.2.1 ++ P.2.2 ∨ s.heap.size ≤ q
section AM10
variable {k : Nat} {s0 : State} {a0 : Array Value} {D : va_G} {J : FieldType → ClassId}
variable {p : Program} {l : Launch} {e : Env} {R : Room} {s : State} {m : MethodId} {args : Array Value} {below : List Frame} {meth : Method} {c : Code} {H : Heap} {locs : List Loc} {cells slots : Nat} {Q : State → Prop}
variable {pc len : Nat} {ls : Array Slot} {rst : List Value} {P0 P : am_P} {lv st : List Value} {h0 h : am_H} {r : am_S}
theorem W.mono {Q Q' : State → Prop} {g : JFrame} (hq : ∀ t, Q t → Q' t) (w : W p l e R s m args below meth c H locs cells slots Q g) : W p l e R s m args below meth c H locs cells slots Q' g := by
  intro T hT X
  obtain ⟨t, a, b⟩ := w T hT X
  exact ⟨t, a, hq t b⟩
theorem am_at.hw (C : am_cx k s0 a0 D J (am_AA P0 s) p R s m meth c) (A : am_at s0 D J (am_AA P0 s) s k P lv st h ls rst H locs) : am_hw s0 D J P h H := by
  obtain ⟨-, -, -, A4, ws, A5, A6, A7, A8⟩ := A
  have O := C.2.2.2.2.2.2.1
  refine ⟨A4, ⟨Nat.le_trans O.1 A8.1, fun q hq => ?_⟩, ws, A5, A6, A7.weaken fun _ _ _ h => O.2.2.1 _ h⟩
  rw [A8.2.1 q (Nat.lt_of_lt_of_le hq O.1) (fun z => by have := O.2.2.1 q z; unfold am_A at this; omega)]
  exact O.2.1 q hq
theorem am_at.adr {AA : Nat → Prop} (A : am_at s0 D J AA s k P lv st h ls rst H locs) : ∀ x ∈ P.2.1 ++ P.2.2, AA x := by
  obtain ⟨-, -, -, -, ws, A5, -, A7, -⟩ := A
  intro x hx
  rw [← A5.2.2.1] at hx
  obtain ⟨q, hq, rfl⟩ := List.mem_map.mp hx
  obtain ⟨i, hi⟩ := List.getElem?_of_mem hq
  exact A7.2 i q hi
/-- the end by MQ is an end -/
theorem am_fin (C : am_cx k s0 a0 D J (am_AA P0 s) p R s m meth c) (hpx : am_px P0 P) (A : am_at s0 D J (am_AA P0 s) s k P lv st h ls rst H locs) {v : Option Value} {w : Option Value} (hv : am_oc s0 P (.inl v) (.returned w) H) (hc : cells = h.2.2.2.1 - h0.2.2.2.1) (hs : slots = h.2.2.2.2 - h0.2.2.2.2) {g : JFrame}
    (hw : W p l e R s m args below meth c H locs cells slots (MQ below (fun _ _ oc t => oc = .returned w ∧ t.heap = H) args s cells slots (am_AA P0 s)) g) :
    W p l e R s m args below meth c H locs cells slots (am_Z s0 D J P0 h0 (.inl v, h) s below) g := by
  refine W.mono (fun t ht => ?_) hw
  obtain ⟨oc, h1, h2, ⟨h3, h3'⟩, L, ⟨-, h4, h5⟩, h6⟩ := ht
  refine ⟨oc, h1, h2, ⟨P, hpx, by rw [h3']; exact A.hw C, by rw [h3, h3']; exact hv, A.adr⟩, h4, L, by rw [← hc, ← hs]; exact h5, h6⟩
theorem am_zret {Qc : Array Value → State → Outcome → State → Prop} {free : Addr → Prop} {v x : Int32} {ty : FieldType} {cc : ByteArray} (hexec : p.tables.exec = Jvm.exec) (hb : c.code = cc) (hr : meth.sig.returnType = some ty) (hn : narrow ty (.int x) = .int v)
    (hq : ∀ t : State, t.heap = H → s.WarmedH t.vm → Qc args s (.returned (some (.int v))) t) (hf : ∀ q ∈ locs, free q.base)
    {pc : Nat} {ls : Array Slot} (hdg : decode cc pc = .ok (.ireturn, 1)) (hlocks : meth.locks = false) : W p l e R s m args below meth c H locs cells slots (MQ below Qc args s cells slots free) (F0 m pc ls [.int x]) := by
  intro T hT X
  obtain ⟨fs, hret, hrun, hended, hW, hframe⟩ := X.leave (v := some (.int v)) (hlocks := hlocks) (fun h => by rw [hr] at h; cases h)
  have hmeth' : T.vm.method? m = some meth := X.method'
  refine ⟨T.setFrames fs, ?_, .returned (some (.int v)), hrun, hended, hq _ hT hW, locs, ⟨⟨_, rfl⟩, hW, hframe⟩, hf⟩
  jvm_step X.here [X.here.top, hexec, hb, hdg, hmeth', hr, hn]
  (try refine ⟨rfl, ?_⟩); (try refine ⟨rfl, ?_⟩)
  first | (intro acts; rw [hret _ acts rfl rfl rfl]) | rw [hret _ _ rfl rfl rfl]
  exact Steps.refl _
end AM10
