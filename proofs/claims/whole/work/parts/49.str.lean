/-! TEXTS: length() and charAt(int) of the JDK on the two constants -/
def am_jr (d : Nat) : Room := { frames := d, cells := 0, slots := 0, locals := 40 * d }
def am_jP (s0 : State) (av : List Value) : Array Value → State → Prop := fun a U => a = av.toArray ∧ s0.WarmedH U.vm ∧ am_old s0 U.heap
def am_jQ (r : Option Value) : Array Value → State → Outcome → State → Prop := fun _ st oc t => oc = .returned r ∧ t.heap = st.heap
/-- a method of the JDK that changes nothing -/
def am_JM (l : Launch) (s0 : State) (y : MethodName) (cc : ByteArray) (n : Nat) (ret : Option FieldType) (d : Nat) (av : List Value) (r : Option Value) : Prop := Met l y [.code y cc n ret] (am_jr d) (am_jP s0 av) (am_jQ r) 0 0 (fun _ => False)
theorem am_jP_blind {s0 : State} {av : List Value} : FrameBlind (am_jP s0 av) := fun _ _ _ _ h => h
/-- what such a method's walk starts from -/
theorem am_JM.of {l : Launch} {s0 : State} {a0 : Array Value} {y : MethodName} {cc : ByteArray} {n : Nat} {ret : Option FieldType} {d : Nat} {av : List Value} {r : Option Value} (hy : plainName y.cls = true) (hB : ∀ w ∈ lw_tbl, w.before a0 s0 = true)
    (body : ∀ (p : Program) (e : Env) (s : State) (m : MethodId) (args : Array Value) (below : List Frame) (meth : Method) (c : Code), p.tables.exec = Jvm.exec → c.code = cc → c.maxLocals = n → meth.sig.returnType = ret → meth.locks = false → s.vm.findClass y.cls = some m.cls → s0.WarmedH s.vm → am_old s0 s.heap → (∀ w ∈ lw_tbl, goodWord w = true → w.before args s = true) → va_S (am_A s0) s.heap s.heap [] →
      W p l e (am_jr d) s m args below meth c s.heap [] 0 0 (MQ below (am_jQ r) args s 0 0 (fun _ => False)) (F0 m 0 ((lg_sl av ++ List.replicate (n - (lg_sl av).length) Slot.unset).toArray) [])) : am_JM l s0 y cc n ret d av r := by
  refine Met.ofW (cc := cc) (maxL := n) (ret := ret) hy rfl ?_
  intro p e s m args below meth c s₁ B hml hP
  obtain ⟨rfl, hW, hold⟩ := hP
  rw [lg_entry_eq]
  exact body p e s m av.toArray below meth c B.exec B.bytes hml B.returns B.notSynchronized (findClass_of_methodNamed B.named) hW hold (fun w hw hg => word_at hW (good_of_word hg) (hB w hw)) va_S.rf
section AMJ
variable {l : Launch} {s0 : State} {a0 : Array Value}
variable {p : Program} {e : Env} {R : Room} {s : State} {m : MethodId} {args : Array Value} {below : List Frame} {meth : Method} {c : Code} {H : Heap} {locs : List Loc} {cells slots : Nat} {Q : State → Prop} {cc : ByteArray}
/-- such a method is called -/
theorem am_jS {y : MethodName} {bytes : ByteArray} {n : Nat} {ret : Option FieldType} {d k index pc nL : Nat} {as rest : List Value} {r : Option Value} {ls : Array Slot} {own : String} (hM : am_JM l s0 y bytes n ret d as r) (hx : p.tables.exec = Jvm.exec) (hb : c.code = cc) (hml : c.maxLocals = nL) (hown : s.vm.findClass own = some m.cls) (hW : s0.WarmedH s.vm) (hold : am_old s0 H) (hts : ∀ w ∈ lw_tbl, goodWord w = true → w.before args s = true)
    (h1 : Jvm.Cond.code y bytes n ret ∈ lw_tbl) (h2 : Jvm.Cond.initialized y.cls ∈ lw_tbl) (h3 : Jvm.Cond.methodLink own index y ∈ lw_tbl) (h4 : Jvm.Cond.static y ∈ lw_tbl) (hy : y.cls ≠ "java/lang/invoke/MethodHandle" ∧ y.cls ≠ "java/lang/invoke/VarHandle" ∧ (parseMethodDescriptor y.desc).map (fun d => d.parameters.length) = some k) (hk : as.length = k) (hR : d + 1 ≤ R.frames ∧ 8 + (n + 11) + 40 * d ≤ R.locals) (hc : cells ≤ R.cells ∧ slots ≤ R.slots)
    (hsz : ls.size = nL) (hw : (rest.map fun v => v.category).sum ≤ 8) (hdg : decode cc pc = .ok (.invokestatic index, 3)) (kk : W p l e R s m args below meth c H locs cells slots Q (F0 m (pc + 3) ls (r.toList ++ rest))) : W p l e R s m args below meth c H locs cells slots Q (F0 m pc ls (as.reverse ++ rest)) := by
  have hcw : ∀ w ∈ ([.code y bytes n ret] : List Jvm.Cond), ∀ (a' : Array Value) (U : State), s.WarmedH U.vm → w.before a' U = true := fun w hw a' U hU => by
    rw [List.mem_singleton.mp hw]
    exact word_at hU (Or.inl rfl) (hts _ h1 rfl)
  refine W.callX (W.runS (Ts := []) (nL := nL) (rest := rest) ⟨hx, hb, hml, hown, fun w hw => by cases hw⟩ hM ⟨⟨rfl, rfl, hR.1, hR.2, hcw, List.mem_cons_self, hts _ h1 rfl, hts _ h2 rfl, ⟨hy.1, hy.2.1⟩, fun sig hs => ?_, hts _ h3 rfl⟩, hts _ h4 rfl⟩ ⟨am_jP_blind, fun U hU hUW => ⟨rfl, State.WarmedH.trans hW hUW, by rw [hU]; exact hold⟩⟩ rfl hk hsz rfl (by show 2 * 0 + _ ≤ 8; omega) hdg ⟨by omega, by omega⟩) (fun x hx => hx.elim) ?_
  · have h2 := hy.2.2
    rw [hs] at h2
    exact (Option.some.inj h2).symm
  · intro v st₀ t h0 hq
    obtain ⟨hv, hh⟩ := hq
    cases hv
    rw [hh, h0]
    exact kk
theorem am_jV {y : MethodName} {bytes : ByteArray} {n : Nat} {ret : Option FieldType} {d k index pc nL b : Nat} {as rest : List Value} {r : Option Value} {ls : Array Slot} {own : String} (hM : am_JM l s0 y bytes n ret d (.ref b :: as) r) (hx : p.tables.exec = Jvm.exec) (hb : c.code = cc) (hml : c.maxLocals = nL) (hown : s.vm.findClass own = some m.cls) (hW : s0.WarmedH s.vm) (hold : am_old s0 H) (hts : ∀ w ∈ lw_tbl, goodWord w = true → w.before args s = true)
    (h1 : Jvm.Cond.code y bytes n ret ∈ lw_tbl) (h2 : Jvm.Cond.initialized y.cls ∈ lw_tbl) (h3 : Jvm.Cond.methodLink own index y ∈ lw_tbl) (h4 : Jvm.Cond.instanceMethod y ∈ lw_tbl) (h5 : Jvm.Cond.selects y.cls y y ∈ lw_tbl) (hO : va_O y.cls b (am_A s0) s H) (hy : y.cls ≠ "java/lang/invoke/MethodHandle" ∧ y.cls ≠ "java/lang/invoke/VarHandle" ∧ (parseMethodDescriptor y.desc).map (fun d => d.parameters.length) = some k) (hk : as.length = k) (hR : d + 1 ≤ R.frames ∧ 8 + (n + 11) + 40 * d ≤ R.locals) (hc : cells ≤ R.cells ∧ slots ≤ R.slots)
    (hsz : ls.size = nL) (hw : (rest.map fun v => v.category).sum ≤ 8) (hdg : decode cc pc = .ok (.invokevirtual index, 3)) (kk : W p l e R s m args below meth c H locs cells slots Q (F0 m (pc + 3) ls (r.toList ++ rest))) : W p l e R s m args below meth c H locs cells slots Q (F0 m pc ls (as.reverse ++ .ref b :: rest)) := by
  have hcw : ∀ w ∈ ([.code y bytes n ret] : List Jvm.Cond), ∀ (a' : Array Value) (U : State), s.WarmedH U.vm → w.before a' U = true := fun w hw a' U hU => by
    rw [List.mem_singleton.mp hw]
    exact word_at hU (Or.inl rfl) (hts _ h1 rfl)
  obtain ⟨cell, o1, o2, o3, -⟩ := hO
  refine W.callX (W.runV (C := y.cls) (Ts := []) (nL := nL) (rest := rest) ⟨hx, hb, hml, hown, fun w hw => by cases hw⟩ hM ⟨⟨rfl, rfl, hR.1, hR.2, hcw, List.mem_cons_self, hts _ h1 rfl, hts _ h2 rfl, ⟨hy.1, hy.2.1⟩, fun sig hs => ?_, hts _ h3 rfl⟩, hts _ h4 rfl, hts _ h5 rfl⟩ ⟨am_jP_blind, ⟨cell, o1, o2, o3⟩, fun U hU hUW => ⟨rfl, State.WarmedH.trans hW hUW, by rw [hU]; exact hold⟩⟩ rfl hk hsz rfl (by show 2 * 0 + _ ≤ 8; omega) hdg ⟨by omega, by omega⟩) (fun x hx => hx.elim) ?_
  · have h2 := hy.2.2
    rw [hs] at h2
    exact (Option.some.inj h2).symm
  · intro v st₀ t h0 hq
    obtain ⟨hv, hh⟩ := hq
    cases hv
    rw [hh, h0]
    exact kk
end AMJ
theorem am_c128 {x : Int32} (h0 : 0 ≤ x.toInt) (h1 : x.toInt < 128) : ((x &&& 255).toUInt32 % 65536).toInt32 = x ∧ narrow .char (.int x) = .int x := by
  have key : ∀ j : Nat, j < 128 → (((nI j) &&& 255).toUInt32 % 65536).toInt32 = nI j ∧ narrow .char (.int (nI j)) = .int (nI j) := by decide +kernel
  obtain ⟨j, hj, rfl⟩ : ∃ j : Nat, j < 128 ∧ x = nI j := vp_in_of (n := 128) (vp_in_iff.mpr ⟨h0, h1⟩) (by omega)
  exact key j hj
def yJ1 : MethodName := ⟨"jdk/internal/util/Preconditions", "checkIndex", "(IILjava/util/function/BiFunction;)I"⟩
def yJ2 : MethodName := ⟨"java/lang/String", "checkIndex", "(II)V"⟩
def yJ3 : MethodName := ⟨"java/lang/StringLatin1", "charAt", "([BI)C"⟩
def yJ4 : MethodName := ⟨"java/lang/String", "isLatin1", "()Z"⟩
def yJ5 : MethodName := ⟨"java/lang/String", "charAt", "(I)C"⟩
def yJ6 : MethodName := ⟨"java/lang/String", "coder", "()B"⟩
def yJ7 : MethodName := ⟨"java/lang/String", "length", "()I"⟩
theorem am_wJ1 : Jvm.Cond.code yJ1 prog_23_method_11_code 3 (some .int) ∈ lw_tbl ∧ Jvm.Cond.initialized yJ1.cls ∈ lw_tbl ∧ Jvm.Cond.methodLink "java/lang/String" 1059 yJ1 ∈ lw_tbl ∧ Jvm.Cond.static yJ1 ∈ lw_tbl ∧ Jvm.Cond.fieldLink "java/lang/String" 1053 "jdk/internal/util/Preconditions" "SIOOBE_FORMATTER" "Ljava/util/function/BiFunction;" ∈ lw_tbl := by decide +kernel
theorem am_wJ2 : Jvm.Cond.code yJ2 prog_18_method_155_code 2 none ∈ lw_tbl ∧ Jvm.Cond.initialized yJ2.cls ∈ lw_tbl ∧ Jvm.Cond.methodLink "java/lang/StringLatin1" 9 yJ2 ∈ lw_tbl ∧ Jvm.Cond.static yJ2 ∈ lw_tbl := by decide +kernel
theorem am_wJ3 : Jvm.Cond.code yJ3 prog_19_method_2_code 2 (some .char) ∈ lw_tbl ∧ Jvm.Cond.initialized yJ3.cls ∈ lw_tbl ∧ Jvm.Cond.methodLink "java/lang/String" 495 yJ3 ∈ lw_tbl ∧ Jvm.Cond.static yJ3 ∈ lw_tbl := by decide +kernel
theorem am_wJ4 : Jvm.Cond.code yJ4 prog_18_method_154_code 1 (some .boolean) ∈ lw_tbl ∧ Jvm.Cond.methodLink "java/lang/String" 492 yJ4 ∈ lw_tbl ∧ Jvm.Cond.instanceMethod yJ4 ∈ lw_tbl ∧ Jvm.Cond.selects yJ4.cls yJ4 yJ4 ∈ lw_tbl ∧ Jvm.Cond.fieldLink "java/lang/String" 38 "java/lang/String" "COMPACT_STRINGS" "Z" ∈ lw_tbl ∧ Jvm.Cond.fieldLink "java/lang/String" 15 "java/lang/String" "coder" "B" ∈ lw_tbl ∧ Jvm.Cond.fieldLink "java/lang/String" 9 "java/lang/String" "value" "[B" ∈ lw_tbl := by decide +kernel
theorem am_wJ5 : Jvm.Cond.code yJ5 prog_18_method_56_code 2 (some .char) ∈ lw_tbl ∧ Jvm.Cond.instanceMethod yJ5 ∈ lw_tbl ∧ Jvm.Cond.selects yJ5.cls yJ5 yJ5 ∈ lw_tbl := by decide +kernel
theorem am_wJ6 : Jvm.Cond.code yJ6 prog_18_method_152_code 1 (some .byte) ∈ lw_tbl ∧ Jvm.Cond.methodLink "java/lang/String" 335 yJ6 ∈ lw_tbl ∧ Jvm.Cond.instanceMethod yJ6 ∈ lw_tbl ∧ Jvm.Cond.selects yJ6.cls yJ6 yJ6 ∈ lw_tbl := by decide +kernel
theorem am_wJ7 : Jvm.Cond.code yJ7 prog_18_method_54_code 1 (some .int) ∈ lw_tbl ∧ Jvm.Cond.instanceMethod yJ7 ∈ lw_tbl ∧ Jvm.Cond.selects yJ7.cls yJ7 yJ7 ∈ lw_tbl := by decide +kernel
section AMJ2
variable {l : Launch} {s0 : State} {a0 : Array Value}
theorem am_j1 (hB : ∀ w ∈ lw_tbl, w.before a0 s0 = true) {i n : Int32} (h0 : ¬ i < 0) (h1 : i < n) {w : Value} (hw : w = .null ∨ ∃ t, w = .ref t) : am_JM l s0 yJ1 prog_23_method_11_code 3 (some .int) 0 [.int i, .int n, w] (some (.int i)) := by
  refine am_JM.of (by decide) hB ?_
  intro p e s m args below meth c hx hb hml hr hlk hown hW hold hts hS
  have hl : lv_has ((lg_sl [.int i, .int n, w] ++ List.replicate (3 - (lg_sl [.int i, .int n, w]).length) Slot.unset).toArray) 3 [(0, .int i), (1, .int n)] := by
    rcases hw with rfl | ⟨t, rfl⟩
    · exact lv_sub (lv_entry _ (Nat.le_of_ble_eq_true rfl)) [0, 1] rfl
    · exact lv_sub (lv_entry _ (Nat.le_of_ble_eq_true rfl)) [0, 1] rfl
  generalize ((lg_sl [.int i, .int n, w] ++ List.replicate (3 - (lg_sl [.int i, .int n, w]).length) Slot.unset).toArray) = ls at hl ⊢
  refine lv_iload_n (k := 0) hx hb (by decide +kernel) rfl (lv_at hl 0 rfl) ?_
  refine lv_if_lt (tgt := 9) (off := 8) hx hb (by decide +kernel) (by decide) (fun z => absurd z h0) (fun _ => ?_)
  refine lv_iload_n (k := 0) hx hb (by decide +kernel) rfl (lv_at hl 0 rfl) ?_
  refine lv_iload_n (k := 1) hx hb (by decide +kernel) rfl (lv_at hl 1 rfl) ?_
  refine lv_icmp_lt (tgt := 16) (off := 10) hx hb (by decide +kernel) (by decide) (fun _ => ?_) (fun z => absurd h1 z)
  refine lv_iload_n (k := 0) hx hb (by decide +kernel) rfl (lv_at hl 0 rfl) ?_
  exact W.iret hx hb hr (fun t ht _ => ⟨rfl, ht⟩) (fun q hq => by cases hq) (by decide +kernel) hlk
theorem am_j2 (hB : ∀ w ∈ lw_tbl, w.before a0 s0 = true) (hF : ∃ v : Value, v.isRef = true ∧ va_Z "jdk/internal/util/Preconditions" "SIOOBE_FORMATTER" "Ljava/util/function/BiFunction;" v (am_A s0) s0 s0.heap) {i n : Int32} (h0 : ¬ i < 0) (h1 : i < n) : am_JM l s0 yJ2 prog_18_method_155_code 2 none 1 [.int i, .int n] none := by
  refine am_JM.of (by decide) hB ?_
  intro p e s m args below meth c hx hb hml hr hlk hown hW hold hts hS
  have hl : lv_has ((lg_sl [.int i, .int n] ++ List.replicate (2 - (lg_sl [.int i, .int n]).length) Slot.unset).toArray) 2 [(0, .int i), (1, .int n)] := lv_entry _ (Nat.le_of_ble_eq_true rfl)
  generalize ((lg_sl [.int i, .int n] ++ List.replicate (2 - (lg_sl [.int i, .int n]).length) Slot.unset).toArray) = ls at hl ⊢
  obtain ⟨v, v1, v2⟩ := hF
  have v3 := (v2.moved hW.alike).kept fun a ha _ => hold.2 a ha
  refine lv_iload_n (k := 0) hx hb (by decide +kernel) rfl (lv_at hl 0 rfl) ?_
  refine lv_iload_n (k := 1) hx hb (by decide +kernel) rfl (lv_at hl 1 rfl) ?_
  refine va_gets (index := 1053) hx hb v3 hS hown (hts _ am_wJ1.2.2.2.2 rfl) (fun _ z => z) (by decide +kernel) ?_
  refine am_jS (as := [.int i, .int n, v]) (rest := []) (k := 3) (index := 1059) (r := some (.int i)) (nL := 2) (am_j1 hB h0 h1 (by cases v <;> simp_all [Value.isRef])) hx hb hml hown hW hold hts am_wJ1.1 am_wJ1.2.1 am_wJ1.2.2.1 am_wJ1.2.2.2.1 (by decide +kernel) rfl ⟨by decide, by decide⟩ ⟨by decide, by decide⟩ hl.1 (by simp) (by decide +kernel) ?_
  refine lv_pop hx hb (by decide +kernel) rfl ?_
  exact W.vret hx hb hr (fun t ht _ => ⟨rfl, ht⟩) (fun q hq => by cases hq) (by decide +kernel) hlk
theorem am_j3 (hB : ∀ w ∈ lw_tbl, w.before a0 s0 = true) (hF : ∃ v : Value, v.isRef = true ∧ va_Z "jdk/internal/util/Preconditions" "SIOOBE_FORMATTER" "Ljava/util/function/BiFunction;" v (am_A s0) s0 s0.heap) {v N : Nat} {f : Nat → Int32} (hT : va_T .byte v N (fun j => .int (f j)) (am_A s0) s0 s0.heap) (hN : N < 1000) (hf : ∀ j, 0 ≤ (f j).toInt ∧ (f j).toInt < 128) {i : Int32} (hi : vp_in i N) : am_JM l s0 yJ3 prog_19_method_2_code 2 (some .char) 2 [.ref v, .int i] (some (.int (f i.toNatClampNeg))) := by
  obtain ⟨j, hj, rfl⟩ := vp_in_of hi (by omega)
  refine am_JM.of (by decide) hB ?_
  intro p e s m args below meth c hx hb hml hr hlk hown hW hold hts hS
  have hl : lv_has ((lg_sl [.ref v, .int (nI j)] ++ List.replicate (2 - (lg_sl [.ref v, .int (nI j)]).length) Slot.unset).toArray) 2 [(0, .ref v), (1, .int (nI j))] := lv_entry _ (Nat.le_of_ble_eq_true rfl)
  generalize ((lg_sl [.ref v, .int (nI j)] ++ List.replicate (2 - (lg_sl [.ref v, .int (nI j)]).length) Slot.unset).toArray) = ls at hl ⊢
  have hT2 := (hT.moved hW.alike).kept fun a ha _ => hold.2 a ha
  obtain ⟨c1, c2⟩ := am_c128 (hf j).1 (hf j).2
  refine lv_iload_n (k := 1) hx hb (by decide +kernel) rfl (lv_at hl 1 rfl) ?_
  refine lv_aload_n (k := 0) hx hb (by decide +kernel) rfl (lv_at hl 0 rfl) ?_
  refine va_tlen hx hb hT2 hS rfl (by decide +kernel) ?_
  refine am_jS (as := [.int (nI j), .int (Int32.ofNat N)]) (rest := []) (k := 2) (index := 9) (r := none) (nL := 2) (am_j2 hB hF (nI_pos (by omega)) (nI_lt hj (by omega))) hx hb hml hown hW hold hts am_wJ2.1 am_wJ2.2.1 am_wJ2.2.2.1 am_wJ2.2.2.2 (by decide +kernel) rfl ⟨by decide, by decide⟩ ⟨by decide, by decide⟩ hl.1 (by simp) (by decide +kernel) ?_
  refine lv_aload_n (k := 0) hx hb (by decide +kernel) rfl (lv_at hl 0 rfl) ?_
  refine lv_iload_n (k := 1) hx hb (by decide +kernel) rfl (lv_at hl 1 rfl) ?_
  refine va_tb hx hb hT2 hS hi rfl (by decide +kernel) ?_
  rw [nI_clamp (by omega)]
  refine lv_sipush (n := 255) (v := 255) hx hb (by decide +kernel) (by decide) ?_
  refine lv_iand hx hb (by decide +kernel) ?_
  refine lv_i2c hx hb (by decide +kernel) rfl ?_
  rw [c1]
  exact W.zret hx hb hr c2 (fun t ht _ => ⟨rfl, ht⟩) (fun q hq => by cases hq) (by decide +kernel) hlk
theorem am_j4 (hB : ∀ w ∈ lw_tbl, w.before a0 s0 = true) (hC : va_Z "java/lang/String" "COMPACT_STRINGS" "Z" (.int 1) (am_A s0) s0 s0.heap) {q : Nat} (hq : va_OF "java/lang/String" "coder" "B" (.int 0) q (am_A s0) s0 s0.heap) : am_JM l s0 yJ4 prog_18_method_154_code 1 (some .boolean) 0 [.ref q] (some (.int 1)) := by
  refine am_JM.of (by decide) hB ?_
  intro p e s m args below meth c hx hb hml hr hlk hown hW hold hts hS
  have hl : lv_has ((lg_sl [.ref q] ++ List.replicate (1 - (lg_sl [.ref q]).length) Slot.unset).toArray) 1 [(0, .ref q)] := lv_entry _ (Nat.le_of_ble_eq_true rfl)
  generalize ((lg_sl [.ref q] ++ List.replicate (1 - (lg_sl [.ref q]).length) Slot.unset).toArray) = ls at hl ⊢
  have hC2 := (hC.moved hW.alike).kept fun a ha _ => hold.2 a ha
  have hq2 := (hq.moved hW.alike).kept fun a ha _ => hold.2 a ha
  refine va_gets (index := 38) hx hb hC2 hS hown (hts _ am_wJ4.2.2.2.2.1 rfl) (fun _ z => z) (by decide +kernel) ?_
  refine lv_if_eq (tgt := 17) (off := 14) hx hb (by decide +kernel) (by decide) (fun z => absurd z (by decide)) (fun _ => ?_)
  refine lv_aload_n (k := 0) hx hb (by decide +kernel) rfl (lv_at hl 0 rfl) ?_
  refine vk_getf (index := 15) hx hb hq2 hS hown (hts _ am_wJ4.2.2.2.2.2.1 rfl) (fun _ z => z) (by decide +kernel) ?_
  refine lv_if_ne (tgt := 17) (off := 7) hx hb (by decide +kernel) (by decide) (fun z => absurd rfl z) (fun _ => ?_)
  refine lv_iconst (n := 1) (v := 1) hx hb (by decide +kernel) (by decide) ?_
  refine lv_goto (tgt := 18) (off := 4) hx hb (by decide +kernel) (by decide) ?_
  exact W.zret hx hb hr narrow_b1 (fun t ht _ => ⟨rfl, ht⟩) (fun q hq => by cases hq) (by decide +kernel) hlk
theorem am_j6 (hB : ∀ w ∈ lw_tbl, w.before a0 s0 = true) (hC : va_Z "java/lang/String" "COMPACT_STRINGS" "Z" (.int 1) (am_A s0) s0 s0.heap) {q : Nat} (hq : va_OF "java/lang/String" "coder" "B" (.int 0) q (am_A s0) s0 s0.heap) : am_JM l s0 yJ6 prog_18_method_152_code 1 (some .byte) 0 [.ref q] (some (.int 0)) := by
  refine am_JM.of (by decide) hB ?_
  intro p e s m args below meth c hx hb hml hr hlk hown hW hold hts hS
  have hl : lv_has ((lg_sl [.ref q] ++ List.replicate (1 - (lg_sl [.ref q]).length) Slot.unset).toArray) 1 [(0, .ref q)] := lv_entry _ (Nat.le_of_ble_eq_true rfl)
  generalize ((lg_sl [.ref q] ++ List.replicate (1 - (lg_sl [.ref q]).length) Slot.unset).toArray) = ls at hl ⊢
  have hC2 := (hC.moved hW.alike).kept fun a ha _ => hold.2 a ha
  have hq2 := (hq.moved hW.alike).kept fun a ha _ => hold.2 a ha
  refine va_gets (index := 38) hx hb hC2 hS hown (hts _ am_wJ4.2.2.2.2.1 rfl) (fun _ z => z) (by decide +kernel) ?_
  refine lv_if_eq (tgt := 13) (off := 10) hx hb (by decide +kernel) (by decide) (fun z => absurd z (by decide)) (fun _ => ?_)
  refine lv_aload_n (k := 0) hx hb (by decide +kernel) rfl (lv_at hl 0 rfl) ?_
  refine vk_getf (index := 15) hx hb hq2 hS hown (hts _ am_wJ4.2.2.2.2.2.1 rfl) (fun _ z => z) (by decide +kernel) ?_
  refine lv_goto (tgt := 14) (off := 4) hx hb (by decide +kernel) (by decide) ?_
  exact W.zret hx hb hr (by decide) (fun t ht _ => ⟨rfl, ht⟩) (fun q hq => by cases hq) (by decide +kernel) hlk
theorem am_j5 (hB : ∀ w ∈ lw_tbl, w.before a0 s0 = true) (hF : ∃ v : Value, v.isRef = true ∧ va_Z "jdk/internal/util/Preconditions" "SIOOBE_FORMATTER" "Ljava/util/function/BiFunction;" v (am_A s0) s0 s0.heap) (hC : va_Z "java/lang/String" "COMPACT_STRINGS" "Z" (.int 1) (am_A s0) s0 s0.heap) {q v N : Nat} (hO : va_O "java/lang/String" q (am_A s0) s0 s0.heap) (hq : va_OF "java/lang/String" "coder" "B" (.int 0) q (am_A s0) s0 s0.heap) (hv : va_OF "java/lang/String" "value" "[B" (.ref v) q (am_A s0) s0 s0.heap) {f : Nat → Int32} (hT : va_T .byte v N (fun j => .int (f j)) (am_A s0) s0 s0.heap) (hN : N < 1000) (hf : ∀ j, 0 ≤ (f j).toInt ∧ (f j).toInt < 128) {i : Int32} (hi : vp_in i N) : am_JM l s0 yJ5 prog_18_method_56_code 2 (some .char) 3 [.ref q, .int i] (some (.int (f i.toNatClampNeg))) := by
  refine am_JM.of (by decide) hB ?_
  intro p e s m args below meth c hx hb hml hr hlk hown hW hold hts hS
  have hl : lv_has ((lg_sl [.ref q, .int i] ++ List.replicate (2 - (lg_sl [.ref q, .int i]).length) Slot.unset).toArray) 2 [(0, .ref q), (1, .int i)] := lv_entry _ (Nat.le_of_ble_eq_true rfl)
  generalize ((lg_sl [.ref q, .int i] ++ List.replicate (2 - (lg_sl [.ref q, .int i]).length) Slot.unset).toArray) = ls at hl ⊢
  have hO2 := (hO.moved hW.alike).kept fun a ha _ => hold.2 a ha
  have hv2 := (hv.moved hW.alike).kept fun a ha _ => hold.2 a ha
  obtain ⟨-, c2⟩ := am_c128 (hf i.toNatClampNeg).1 (hf i.toNatClampNeg).2
  refine lv_aload_n (k := 0) hx hb (by decide +kernel) rfl (lv_at hl 0 rfl) ?_
  refine am_jV (as := []) (rest := []) (k := 0) (index := 492) (r := some (.int 1)) (nL := 2) (am_j4 hB hC hq) hx hb hml hown hW hold hts am_wJ4.1 am_wJ2.2.1 am_wJ4.2.1 am_wJ4.2.2.1 am_wJ4.2.2.2.1 hO2 (by decide +kernel) rfl ⟨by decide, by decide⟩ ⟨by decide, by decide⟩ hl.1 (by simp) (by decide +kernel) ?_
  refine lv_if_eq (tgt := 16) (off := 12) hx hb (by decide +kernel) (by decide) (fun z => absurd z (by decide)) (fun _ => ?_)
  refine lv_aload_n (k := 0) hx hb (by decide +kernel) rfl (lv_at hl 0 rfl) ?_
  refine vk_getf (index := 9) hx hb hv2 hS hown (hts _ am_wJ4.2.2.2.2.2.2 rfl) (fun _ z => z) (by decide +kernel) ?_
  refine lv_iload_n (k := 1) hx hb (by decide +kernel) rfl (lv_at hl 1 rfl) ?_
  refine am_jS (as := [.ref v, .int i]) (rest := []) (k := 2) (index := 495) (r := some (.int (f i.toNatClampNeg))) (nL := 2) (am_j3 hB hF hT hN hf hi) hx hb hml hown hW hold hts am_wJ3.1 am_wJ3.2.1 am_wJ3.2.2.1 am_wJ3.2.2.2 (by decide +kernel) rfl ⟨by decide, by decide⟩ ⟨by decide, by decide⟩ hl.1 (by simp) (by decide +kernel) ?_
  exact W.zret hx hb hr c2 (fun t ht _ => ⟨rfl, ht⟩) (fun q hq => by cases hq) (by decide +kernel) hlk
theorem am_j7 (hB : ∀ w ∈ lw_tbl, w.before a0 s0 = true) (hC : va_Z "java/lang/String" "COMPACT_STRINGS" "Z" (.int 1) (am_A s0) s0 s0.heap) {q v N : Nat} (hO : va_O "java/lang/String" q (am_A s0) s0 s0.heap) (hq : va_OF "java/lang/String" "coder" "B" (.int 0) q (am_A s0) s0 s0.heap) (hv : va_OF "java/lang/String" "value" "[B" (.ref v) q (am_A s0) s0 s0.heap) {f : Nat → Int32} (hT : va_T .byte v N (fun j => .int (f j)) (am_A s0) s0 s0.heap) : am_JM l s0 yJ7 prog_18_method_54_code 1 (some .int) 3 [.ref q] (some (.int (Int32.ofNat N))) := by
  refine am_JM.of (by decide) hB ?_
  intro p e s m args below meth c hx hb hml hr hlk hown hW hold hts hS
  have hl : lv_has ((lg_sl [.ref q] ++ List.replicate (1 - (lg_sl [.ref q]).length) Slot.unset).toArray) 1 [(0, .ref q)] := lv_entry _ (Nat.le_of_ble_eq_true rfl)
  generalize ((lg_sl [.ref q] ++ List.replicate (1 - (lg_sl [.ref q]).length) Slot.unset).toArray) = ls at hl ⊢
  have hO2 := (hO.moved hW.alike).kept fun a ha _ => hold.2 a ha
  have hv2 := (hv.moved hW.alike).kept fun a ha _ => hold.2 a ha
  have hT2 := (hT.moved hW.alike).kept fun a ha _ => hold.2 a ha
  refine lv_aload_n (k := 0) hx hb (by decide +kernel) rfl (lv_at hl 0 rfl) ?_
  refine vk_getf (index := 9) hx hb hv2 hS hown (hts _ am_wJ4.2.2.2.2.2.2 rfl) (fun _ z => z) (by decide +kernel) ?_
  refine va_tlen hx hb hT2 hS rfl (by decide +kernel) ?_
  refine lv_aload_n (k := 0) hx hb (by decide +kernel) rfl (lv_at hl 0 rfl) ?_
  refine am_jV (as := []) (rest := [.int (Int32.ofNat N)]) (k := 0) (index := 335) (r := some (.int 0)) (nL := 1) (am_j6 hB hC hq) hx hb hml hown hW hold hts am_wJ6.1 am_wJ2.2.1 am_wJ6.2.1 am_wJ6.2.2.1 am_wJ6.2.2.2 hO2 (by decide +kernel) rfl ⟨by decide, by decide⟩ ⟨by decide, by decide⟩ hl.1 (by simp [Value.category]) (by decide +kernel) ?_
  refine lv_ishr hx hb (by decide +kernel) ?_
  rw [sb_shr0]
  exact W.iret hx hb hr (fun t ht _ => ⟨rfl, ht⟩) (fun q hq => by cases hq) (by decide +kernel) hlk
end AMJ2
section AM7s
variable {k : Nat} {s0 : State} {a0 : Array Value} {D : va_G} {J : FieldType → ClassId} {AA : Nat → Prop}
variable {p : Program} {l : Launch} {e : Env} {R : Room} {s : State} {m : MethodId} {args : Array Value} {below : List Frame} {meth : Method} {c : Code} {H : Heap} {locs : List Loc} {cells slots : Nat} {Q : State → Prop}
variable {pc len : Nat} {ls : Array Slot} {rst : List Value} {P : am_P} {lv st : List Value} {h : am_H} {r : am_S}
theorem ao_d2i (C : am_cx k s0 a0 D J AA p R s m meth c) (hok : am_ok k pc .d2i len = true) (A : am_at s0 D J AA s k P lv st h ls rst H locs) (e1 : am_o1 k .d2i (pc + len) lv st h = some r) (hR : cells + (r.2.2.2.2.2.2.1 - h.2.2.2.1) ≤ R.cells ∧ slots + (r.2.2.2.2.2.2.2 - h.2.2.2.2) ≤ R.slots) (hRf : 10 ≤ R.frames) (hRl : 200 ≤ R.locals) (G : am_go s0 D J AA p l e R s m args below meth c k P cells slots h Q r) : W p l e R s m args below meth c H locs cells slots Q (F0 m pc ls rst) := by
  obtain ⟨r0, hd, hro⟩ := am_ok_r hok
  obtain ⟨A1, A2, A3, A4, ws, A5, A6, A7, A8⟩ := A
  change (match (generalizing := false) r0 with | .invokevirtual i => Nat.beq len 3 && am_wt (am_ix k i) (.methodLink (am_y k).cls i ⟨"java/lang/String", "charAt", "(I)C"⟩) | _ => false) = true at hro
  change Option.map _ (match (generalizing := false) st with | .int i :: .ref a :: st => (match am_get h a with | some (.inr (.byte, n, .inl f)) => cond (Nat.ble (am_wd st) 8) (cond (am_in i n) (some (pc + len, Value.int (f i.toNatClampNeg) :: st, h)) none) none | _ => none) | _ => none) = some r at e1
  split at hro
  · rename_i ix
    obtain ⟨h1, h3⟩ := am_b2 hro
    cases Nat.eq_of_beq_eq_true h1
    split at e1
    · rename_i i a st
      obtain ⟨w0, r0, rfl, hv0, B0⟩ := am_vs.c1 A3
      cases (show w0 = .int i from hv0)
      obtain ⟨w1, r1, rfl, hv1, B1⟩ := am_vs.c1 B0
      obtain ⟨q, hq, rfl⟩ := hv1
      split at e1
      · rename_i n f hg
        cases hwd : Nat.ble (am_wd st) 8 with
        | false => rw [hwd] at e1; cases e1
        | true => ?_
        cases hin : am_in i n with
        | false => rw [hwd, hin] at e1; cases e1
        | true => ?_
        rw [hwd, hin] at e1
        cases e1
        have O := C.2.2.2.2.2.2.1
        have W0 := C.2.2.2.2.2.1
        have B := C.2.2.2.2.1
        have hold : am_old s0 H := ⟨Nat.le_trans O.1 A8.1, fun q hq => by
          rw [A8.2.1 q (Nat.lt_of_lt_of_le hq O.1) (fun z => by have := O.2.2.1 q z; unfold am_A at this; omega)]
          exact O.2.1 q hq⟩
        have hsum := B1.wd
        have hle := Nat.le_of_ble_eq_true hwd
        simp only [Nat.sub_self, Nat.add_zero] at hR
        by_cases ha : a < 100
        · obtain ⟨q', z1, v, z2, z3, z4, z5, z6, z7⟩ := A4.1 a _ (am_get_lo hg ha) ha
          cases (am_ad_lo hq ha).symm.trans z1
          have hO2 := (z3.moved W0.alike).kept fun a ha _ => hold.2 a ha
          exact am_jV (as := [.int i]) (rest := r1) (k := 1) (index := ix) (r := some (.int (f i.toNatClampNeg))) (nL := am_ml k) (am_j5 B.1 B.2.2.2.2.2.2.2 B.2.2.2.2.2.2.1 z3 z4 z5 z6 z2 z7 (am_in_vp hin)) C.1 C.2.1 C.2.2.1 C.2.2.2.1 W0 hold (fun w hw hg => C.word hw hg) am_wJ5.1 am_wJ2.2.1 (am_wt_mem h3) am_wJ5.2.1 am_wJ5.2.2 hO2 (by decide +kernel) rfl ⟨by omega, by omega⟩ hR (by rw [A1.1, A2]) (by omega) hd (G.same ⟨A1, A2, ⟨rfl, B1⟩, A4, ws, A5, A6, A7, A8⟩)
        · have := (A5.arr (fun _ q => by cases q) ha hg hq).2
          simp [am_tl] at this
      · cases e1
    · cases e1
  · cases hro
theorem ao_f2l (C : am_cx k s0 a0 D J AA p R s m meth c) (hok : am_ok k pc .f2l len = true) (A : am_at s0 D J AA s k P lv st h ls rst H locs) (e1 : am_o1 k .f2l (pc + len) lv st h = some r) (hR : cells + (r.2.2.2.2.2.2.1 - h.2.2.2.1) ≤ R.cells ∧ slots + (r.2.2.2.2.2.2.2 - h.2.2.2.2) ≤ R.slots) (hRf : 10 ≤ R.frames) (hRl : 200 ≤ R.locals) (G : am_go s0 D J AA p l e R s m args below meth c k P cells slots h Q r) : W p l e R s m args below meth c H locs cells slots Q (F0 m pc ls rst) := by
  obtain ⟨r0, hd, hro⟩ := am_ok_r hok
  obtain ⟨A1, A2, A3, A4, ws, A5, A6, A7, A8⟩ := A
  change (match (generalizing := false) r0 with | .invokevirtual i => Nat.beq len 3 && am_wt (am_ix k i) (.methodLink (am_y k).cls i ⟨"java/lang/String", "length", "()I"⟩) | _ => false) = true at hro
  change Option.map _ (match (generalizing := false) st with | .ref a :: st => (match am_get h a with | some (.inr (.byte, n, _)) => cond (Nat.ble (am_wd st) 8) (some (pc + len, Value.int (Int32.ofNat n) :: st, h)) none | _ => none) | _ => none) = some r at e1
  split at hro
  · rename_i ix
    obtain ⟨h1, h3⟩ := am_b2 hro
    cases Nat.eq_of_beq_eq_true h1
    split at e1
    · rename_i a st
      obtain ⟨w1, r1, rfl, hv1, B1⟩ := am_vs.c1 A3
      obtain ⟨q, hq, rfl⟩ := hv1
      split at e1
      · rename_i n x hg
        cases hwd : Nat.ble (am_wd st) 8 with
        | false => rw [hwd] at e1; cases e1
        | true => ?_
        rw [hwd] at e1
        cases e1
        have O := C.2.2.2.2.2.2.1
        have W0 := C.2.2.2.2.2.1
        have B := C.2.2.2.2.1
        have hold : am_old s0 H := ⟨Nat.le_trans O.1 A8.1, fun q hq => by
          rw [A8.2.1 q (Nat.lt_of_lt_of_le hq O.1) (fun z => by have := O.2.2.1 q z; unfold am_A at this; omega)]
          exact O.2.1 q hq⟩
        have hsum := B1.wd
        have hle := Nat.le_of_ble_eq_true hwd
        simp only [Nat.sub_self, Nat.add_zero] at hR
        by_cases ha : a < 100
        · obtain ⟨q', z1, z⟩ := A4.1 a _ (am_get_lo hg ha) ha
          cases (am_ad_lo hq ha).symm.trans z1
          rcases x with f | f | f | f | f
          · obtain ⟨v, z2, z3, z4, z5, z6, z7⟩ := z
            have hO2 := (z3.moved W0.alike).kept fun a ha _ => hold.2 a ha
            exact am_jV (as := []) (rest := r1) (k := 0) (index := ix) (r := some (.int (Int32.ofNat n))) (nL := am_ml k) (am_j7 B.1 B.2.2.2.2.2.2.1 z3 z4 z5 z6) C.1 C.2.1 C.2.2.1 C.2.2.2.1 W0 hold (fun w hw hg => C.word hw hg) am_wJ7.1 am_wJ2.2.1 (am_wt_mem h3) am_wJ7.2.1 am_wJ7.2.2 hO2 (by decide +kernel) rfl ⟨by omega, by omega⟩ hR (by rw [A1.1, A2]) (by omega) hd (G.same ⟨A1, A2, ⟨rfl, B1⟩, A4, ws, A5, A6, A7, A8⟩)
          all_goals exact z.elim
        · obtain ⟨q', y, g1, g2, g3, -⟩ := A5.at ha hg
          have := g3.1
          simp [am_tl] at this
      · cases e1
    · cases e1
  · cases hro
end AM7s
