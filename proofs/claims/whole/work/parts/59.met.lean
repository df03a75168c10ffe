/-! A METHOD'S CONTRACT OUT OF ITS RUN IN THE ABSTRACT MACHINE -/
theorem am_sl_len {P : am_P} : ∀ {as av : List Value}, am_vs P as av → (lg_sl av).length = (am_args as).length
  | [], [], _ => rfl
  | v :: as, w :: av, ⟨h, t⟩ => by
    have ih := am_sl_len t
    cases v with
    | int x => cases (show w = .int x from h); simpa [lg_sl, am_args, Value.category] using ih
    | long x => cases (show w = .long x from h); simpa [lg_sl, am_args, Value.category] using ih
    | null => cases (show w = .null from h); simpa [lg_sl, am_args, Value.category] using ih
    | ref a => obtain ⟨q, -, rfl⟩ := h; simpa [lg_sl, am_args, Value.category] using ih
    | _ => exact h.elim
  | [], _ :: _, h => h.elim
  | _ :: _, [], h => h.elim
theorem am_sl_at {P : am_P} : ∀ {as av : List Value} {i : Nat} {v : Value}, am_vs P as av → (am_args as)[i]? = some v → v = am_ju ∨ ∃ w, am_vr P v w ∧ (lg_sl av)[i]? = some (.val w)
  | [], [], i, v, _, e => by simp [am_args] at e
  | u :: as, w :: av, i, v, ⟨h, t⟩, e => by
    cases u with
    | int x =>
      cases (show w = .int x from h)
      cases i with
      | zero => simp [am_args] at e; subst e; exact Or.inr ⟨_, rfl, by simp [lg_sl, Value.category]⟩
      | succ i =>
        rcases am_sl_at (i := i) t (by simpa [am_args] using e) with q | ⟨z, z1, z2⟩
        · exact Or.inl q
        · exact Or.inr ⟨z, z1, by simpa [lg_sl, Value.category] using z2⟩
    | null =>
      cases (show w = .null from h)
      cases i with
      | zero => simp [am_args] at e; subst e; exact Or.inr ⟨_, rfl, by simp [lg_sl, Value.category]⟩
      | succ i =>
        rcases am_sl_at (i := i) t (by simpa [am_args] using e) with q | ⟨z, z1, z2⟩
        · exact Or.inl q
        · exact Or.inr ⟨z, z1, by simpa [lg_sl, Value.category] using z2⟩
    | ref a =>
      obtain ⟨b, hb, rfl⟩ := h
      cases i with
      | zero => simp [am_args] at e; subst e; exact Or.inr ⟨_, ⟨b, hb, rfl⟩, by simp [lg_sl, Value.category]⟩
      | succ i =>
        rcases am_sl_at (i := i) t (by simpa [am_args] using e) with q | ⟨z, z1, z2⟩
        · exact Or.inl q
        · exact Or.inr ⟨z, z1, by simpa [lg_sl, Value.category] using z2⟩
    | long x =>
      cases (show w = .long x from h)
      cases i with
      | zero => simp [am_args] at e; subst e; exact Or.inr ⟨_, rfl, by simp [lg_sl, Value.category]⟩
      | succ i => cases i with
        | zero => simp [am_args] at e; exact Or.inl e.symm
        | succ i =>
          rcases am_sl_at (i := i) t (by simpa [am_args] using e) with q | ⟨z, z1, z2⟩
          · exact Or.inl q
          · exact Or.inr ⟨z, z1, by simpa [lg_sl, Value.category] using z2⟩
    | _ => exact h.elim
  | [], _ :: _, _, _, h, _ => h.elim
  | _ :: _, [], _, _, h, _ => h.elim
theorem am_ent_len {k : Nat} {as : List Value} (h : (am_args as).length ≤ am_ml k) : (am_ent k as).length = am_ml k := by
  simp [am_ent]; omega
theorem am_ent_lr {P : am_P} {k : Nat} {as av : List Value} (hv : am_vs P as av) (h : (am_args as).length ≤ am_ml k) : am_lr P (am_ent k as) ((lg_sl av ++ List.replicate (am_ml k - (lg_sl av).length) Slot.unset).toArray) := by
  have hl := am_sl_len hv
  have E := lv_entry av (n := am_ml k) (by omega)
  refine ⟨by rw [am_ent_len h, E.1], E.2.1, fun i v e => ?_⟩
  unfold am_ent at e
  by_cases hi : i < (am_args as).length
  · rw [List.getElem?_append_left hi] at e
    rcases am_sl_at hv e with q | ⟨w, w1, w2⟩
    · exact Or.inl q
    · refine Or.inr ⟨w, w1, ?_⟩
      have : ((lg_sl av ++ List.replicate (am_ml k - (lg_sl av).length) Slot.unset))[i]? = some (.val w) := by
        rw [List.getElem?_append_left (by omega)]; exact w2
      simpa using this
  · rw [List.getElem?_append_right (by omega)] at e
    exact Or.inl (List.eq_of_mem_replicate (List.mem_of_getElem? e))
/-- what holds at a method's entry -/
theorem am_entry {s0 : State} {a0 : Array Value} {D : va_G} {J : FieldType → ClassId} {k : Nat} {p : Program} {R : Room} {s : State} {m : MethodId} {meth : Method} {c : Code} {P : am_P} {h : am_H} {as av : List Value} (G : am_base s0 a0 D J) (h1 : p.tables.exec = Jvm.exec) (h2 : c.code = am_by k) (h3 : c.maxLocals = am_ml k) (h4 : s.vm.findClass (am_y k).cls = some m.cls) (hW : s0.WarmedH s.vm) (h6 : meth.name = (am_y k).name) (h7 : meth.sig.returnType = am_rt k) (h8 : meth.locks = false) (h9 : 1 ≤ R.frames) (h10 : 40 ≤ R.locals)
    (hw : am_hw s0 D J P h s.heap) (hv : am_vs P as av) (hl : (am_args as).length ≤ am_ml k) :
    am_cx k s0 a0 D J (am_AA P s) p R s m meth c ∧ am_at s0 D J (am_AA P s) s k P (am_ent k as) [] h ((lg_sl av ++ List.replicate (am_ml k - (lg_sl av).length) Slot.unset).toArray) [] s.heap [] := by
  obtain ⟨z1, z2, ws, z3, z4, z5⟩ := hw
  have mem : ∀ q, q ∈ P.2.1 ++ P.2.2 → ∃ (i : Nat) (x : va_E), ws[i]? = some (q, x) := by
    intro q hq
    rw [← z3.2.2.1] at hq
    obtain ⟨⟨q', x⟩, hx, rfl⟩ := List.mem_map.mp hq
    obtain ⟨i, hi⟩ := List.getElem?_of_mem hx
    exact ⟨i, x, hi⟩
  refine ⟨⟨h1, h2, h3, h4, G, hW, ⟨z2.1, z2.2, fun q hq => ?_, fun q hq => Or.inr hq, fun q cell hq hc => ?_⟩, h6, h7, h8, h9, h10⟩, am_ent_lr hv hl, am_ent_len hl, trivial, z1, ws, z3, z4, ⟨z5.1, fun i q hi => ?_⟩, va_S.rf⟩
  · rcases hq with hq | hq
    · obtain ⟨i, x, hi⟩ := mem q hq
      exact z5.2 i _ hi
    · exact Nat.le_trans z2.1 hq
  · rcases hq with hq | hq
    · obtain ⟨i, x, hi⟩ := mem q hq
      have := z4 i _ hi
      rcases x with x | x
      · have h' : s.heap[q]? = some (vp_cell x.1 x.2) := this
        cases hc.symm.trans h'
        obtain ⟨cA, n, y⟩ := x
        rcases y with f | f | f | f | f <;> rfl
      · obtain ⟨rc, -, cell', g1, g2, g3, -⟩ := this
        cases hc.symm.trans g1
        rw [g3]
        rfl
    · have := (Array.getElem?_eq_some_iff.mp hc).1
      omega
  · left
    rw [← z3.2.2.1]
    exact List.mem_map.mpr ⟨q, List.mem_of_getElem? hi, rfl⟩
theorem am_sim {l : Launch} {s0 : State} {a0 : Array Value} {D : va_G} {J : FieldType → ClassId} (hl : l.stackTraces = false) (G : am_base s0 a0 D J) (hlk : ∀ k pc ins len, am_cd k pc = some (ins, len) → am_oka k pc ins len = true) (hms : ∀ j, 1 ≤ j → j ≤ 154 → am_okm j = true) :
    ∀ (d n k : Nat) (as : List Value) (h : am_H) (o : am_O), 1 ≤ k → k ≤ 154 → am_cl d n k as h = some o → am_ctr l s0 D J d k as h o
  | 0, _, _, _, _, _, _, _, e => by cases e
  | d + 1, n, k, as, h, o, k1, k2, e => by
    obtain ⟨ha, e⟩ := am_cnd (show cond (Nat.ble (am_args as).length (am_ml k)) (am_rn (am_cl d n) k n (0, am_ent k as, [], h)) none = some o from e)
    have hal := Nat.le_of_ble_eq_true ha
    have hm := hms k k1 k2
    intro P av hv
    have hm' := hm
    unfold am_okm at hm'
    obtain ⟨hm', -⟩ := am_b2 hm'
    obtain ⟨hm', h7⟩ := am_b2 hm'
    obtain ⟨hm', -⟩ := am_b2 hm'
    obtain ⟨hm', -⟩ := am_b2 hm'
    obtain ⟨hm', -⟩ := am_b2 hm'
    obtain ⟨hm', h3⟩ := am_b2 hm'
    refine MetFree.of_bodyS (code := am_by k) (maxLocals := am_ml k) (ret := am_rt k) h3 ?_ ?_
    · intro args s m hp hn
      obtain ⟨mk, methM, cM, hn', g1, g2, g3, g4, g5, g6, -⟩ := am_meth (atoms_spec (ws := [am_cword k]) hp _ List.mem_cons_self)
      cases hn.symm.trans hn'
      exact ⟨methM, cM, g1, g2, g3, g4, g5, g6⟩
    · intro p e' s m args below meth c s₁ B hml hP _
      obtain ⟨rfl, hW, hw⟩ := hP
      obtain ⟨mk, methM, cM, hn', g1, g2, g3, g4, g5, g6, g7, g8⟩ := am_meth (atoms_spec (ws := [am_cword k]) B.pre _ List.mem_cons_self)
      cases B.named.symm.trans hn'
      cases B.method.symm.trans g1
      have hcc : cM = c := by
        have X := Stand.of_body B
        exact Option.some.inj (g2.symm.trans X.code)
      subst hcc
      obtain ⟨C, A⟩ := am_entry (R := am_rm (d + 1) h o) G B.exec B.bytes g4 (findClass_of_methodNamed B.named) hW (name_of_methodNamed B.named B.method).1 B.returns B.notSynchronized (by show 1 ≤ d + 1 + 10; omega) (by show 40 ≤ 40 * (d + 1) + 200; omega) hw hv hal
      have hh0 : s₁.heap = s.heap := by rw [B.state]; rfl
      have w := am_run (l := l) (e := e') (args := av.toArray) (below := below) (h0 := h) hl (hlk k) hms (fun j as h o j1 j2 z => am_sim hl G hlk hms d n j as h o j1 j2 z) C g8 (fun z => (of_decide_eq_true h7).mpr z) (by show d + 11 ≤ d + 1 + 10; omega) (by show 40 * d + 240 ≤ 40 * (d + 1) + 200; omega) n 0 _ _ h o e P _ _ _ _ (am_px.rf P) A (am_up.rf h) ⟨Nat.le_refl _, Nat.le_refl _⟩
      rw [Nat.sub_self, Nat.sub_self] at w
      rw [← lg_entry_eq, ← hh0] at w
      obtain ⟨t, a1, oc, b1, b2, b3⟩ := w s₁ rfl (Stand.of_body B)
      exact ⟨t, oc, a1, b1, b2, b3⟩
