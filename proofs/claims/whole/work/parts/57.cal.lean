section AM15
variable {k : Nat} {s0 : State} {a0 : Array Value} {D : va_G} {J : FieldType → ClassId} {AA : Nat → Prop}
variable {p : Program} {l : Launch} {e : Env} {R : Room} {s : State} {m : MethodId} {args : Array Value} {below : List Frame} {meth : Method} {c : Code} {H : Heap} {locs : List Loc} {cells slots : Nat} {Q : State → Prop}
variable {pc len : Nat} {ls : Array Slot} {rst : List Value} {P : am_P} {lv st : List Value} {h : am_H}
/-- the call of a method of ours is linked -/
theorem am_lnk {j : Nat} {as st' : List Value} (C : am_cx k s0 a0 D J AA p R s m meth c) (hok : am_okc k pc j len = true) (hm : am_okm j = true) (A : am_at s0 D J AA s k P lv st h ls rst H locs) (hpop : am_pop (am_np j) [] st = some (as, st')) (hrv : am_rv j as h = true) {T : State} (hT : T.heap = H) (X : Stand p l e R s m args below meth c T locs cells slots) :
    ∃ (av rst' : List Value) (ig : Instr), am_vs P as av ∧ am_vs P st' rst' ∧ len = 3 ∧ decode c.code pc = .ok (ig, 3) ∧ am_LK p l e R s m args below meth c T locs cells slots (F0 m pc ls rst) rst' (am_y j) av.toArray := by
  obtain ⟨xs, x1, x2, x3⟩ := am_pop_spec _ _ _ _ _ hpop
  obtain ⟨A1, A2, A3, A4, ws, A5, A6, A7, A8⟩ := A
  rw [x3] at A3
  obtain ⟨ra, rb, rfl, r1, r2⟩ := am_vs.split A3
  have hav : am_vs P as ra.reverse := by
    rw [x2, List.append_nil]
    exact r1.rev
  have hlen : ra.reverse.length = am_np j := by rw [List.length_reverse, r1.len, x1]
  unfold am_okc at hok
  obtain ⟨-, hok⟩ := am_b2 hok
  have recv : (am_rk j).isSome = true → ∃ b av', ra.reverse = .ref b :: av' ∧ ∃ cell : Cell, T.heap[b]? = some cell ∧ cell.vm.isStatics = false ∧ s.vm.findClass (am_y j).cls = some cell.cls := by
    intro hs
    obtain ⟨ci, hci⟩ := Option.isSome_iff_exists.mp hs
    unfold am_rv at hrv
    rw [hci] at hrv
    simp only at hrv
    split at hrv
    · rename_i a as'
      split at hrv
      · rename_i c' fs hg
        cases Nat.eq_of_beq_eq_true hrv
        generalize hq : ra.reverse = av at hav
        cases av with
        | nil => exact hav.elim
        | cons w av' =>
          obtain ⟨⟨b, hb, rfl⟩, -⟩ := hav
          obtain ⟨fs', hw, -⟩ := A5.obj (A4.noobj hg) hg hb
          obtain ⟨rc, hrc, -⟩ := A6 _ _ hw
          obtain ⟨cell, c1, c2, c3⟩ := va_recv C.K A6 hrc hw
          refine ⟨b, av', rfl, cell, by rw [hT]; exact c1, c2, ?_⟩
          rw [← c3, (am_clc_ok hrc).2.2.2.1]
          have hm' := hm
          unfold am_okm at hm'
          obtain ⟨-, h8⟩ := am_b2 hm'
          split at h8
          · rw [hci] at h8
            simp only at h8
            obtain ⟨h8, -⟩ := am_b2 h8
            obtain ⟨-, h9⟩ := am_b2 h8
            rw [of_decide_eq_true h9]
          · cases h8
      · cases hrv
    · cases hrv
  have hcb : c.code = am_by k := C.2.1
  split at hok
  · rename_i i n hd
    obtain ⟨hok, h5⟩ := am_b2 hok
    obtain ⟨hok, h4⟩ := am_b2 hok
    obtain ⟨hok, h3⟩ := am_b2 hok
    obtain ⟨h1, h2⟩ := am_b2 hok
    cases Nat.eq_of_beq_eq_true h1
    obtain ⟨b, av', e1, cell, c1, c2, c3⟩ := recv h3
    have e2 : ra = av'.reverse ++ [.ref b] := by rw [← List.reverse_reverse ra, e1, List.reverse_cons]
    refine ⟨ra.reverse, rb, .invokevirtual i, hav, r2, Nat.eq_of_beq_eq_true h2, by rw [hcb]; exact hd, ?_⟩
    rw [e1]
    refine am_lnkV C hm X h3 (of_decide_eq_true h4) h5 c1 c2 c3 rfl (by rw [e1] at hlen; exact hlen) ?_ (by rw [hcb]; exact hd)
    show ra ++ rb = _
    rw [e2, List.append_assoc]
    rfl
  · rename_i i n hd
    obtain ⟨hok, h5⟩ := am_b2 hok
    obtain ⟨hok, h3⟩ := am_b2 hok
    obtain ⟨h1, h2⟩ := am_b2 hok
    cases Nat.eq_of_beq_eq_true h1
    refine ⟨ra.reverse, rb, .invokestatic i, hav, r2, Nat.eq_of_beq_eq_true h2, by rw [hcb]; exact hd, ?_⟩
    refine am_lnkS C hm X h3 h5 rfl hlen ?_ (by rw [hcb]; exact hd)
    show ra ++ rb = _
    rw [List.reverse_reverse]
  · rename_i i n hd
    obtain ⟨hok, h5⟩ := am_b2 hok
    obtain ⟨hok, h4⟩ := am_b2 hok
    obtain ⟨hok, h3⟩ := am_b2 hok
    obtain ⟨h1, h2⟩ := am_b2 hok
    cases Nat.eq_of_beq_eq_true h1
    obtain ⟨b, av', e1, -⟩ := recv h3
    have e2 : ra = av'.reverse ++ [.ref b] := by rw [← List.reverse_reverse ra, e1, List.reverse_cons]
    refine ⟨ra.reverse, rb, .invokespecial i, hav, r2, Nat.eq_of_beq_eq_true h2, by rw [hcb]; exact hd, ?_⟩
    rw [e1]
    refine am_lnkI C hm X h3 (of_decide_eq_true h4) (by simpa using h5) rfl (by rw [e1] at hlen; exact hlen) ?_ (by rw [hcb]; exact hd)
    show ra ++ rb = _
    rw [e2, List.append_assoc]
    rfl
  · cases hok
/-- the call is made, and comes back or throws -/
theorem am_cal {j d : Nat} {as st' : List Value} {o : am_O} (C : am_cx k s0 a0 D J AA p R s m meth c) (hok : am_okc k pc j len = true) (hm : am_okm j = true) (A : am_at s0 D J AA s k P lv st h ls rst H locs) (hpop : am_pop (am_np j) [] st = some (as, st')) (hwd : Nat.ble (am_wd st') 8 = true) (hrv : am_rv j as h = true)
    (hctr : am_ctr l s0 D J d j as h o) (hRf : d + 11 ≤ R.frames) (hRl : 40 * d + 240 ≤ R.locals) (hR : cells + (o.2.2.2.2.1 - h.2.2.2.1) ≤ R.cells ∧ slots + (o.2.2.2.2.2 - h.2.2.2.2) ≤ R.slots) {T : State} (hT : T.heap = H) (X : Stand p l e R s m args below meth c T locs cells slots) :
    ∃ (rst' : List Value) (T' : State) (L : List Loc) (P' : am_P) (oc : Outcome), len = 3 ∧ Stand p l e R s m args below meth c T' (locs ++ L) (cells + (o.2.2.2.2.1 - h.2.2.2.1)) (slots + (o.2.2.2.2.2 - h.2.2.2.2)) ∧ am_px P P' ∧ am_oc s0 P' o.1 oc T'.heap ∧ am_vs P' st' rst' ∧
      am_at s0 D J AA s k P' lv [] o.2 ls [] T'.heap (locs ++ L) ∧
      (∀ v, oc = .returned v → ∀ target, Steps p.tables e below (T'.setTop (F0 m (pc + 3) ls (v.toList ++ rst'))) target → Steps p.tables e below (T.setTop (F0 m pc ls rst)) target) ∧
      (∀ b, oc = .threw b → ∀ target, Steps p.tables e below ((T'.setTop (F0 m pc ls rst')).pushFrame (.throwing b)) target → Steps p.tables e below (T.setTop (F0 m pc ls rst)) target) := by
  obtain ⟨av, rst', ig, hav, hst, hlen, hdg, vm₁, mk, X₁, hn, hst₁⟩ := am_lnk C hok hm A hpop hrv hT X
  have Aad := A.adr
  have O := C.2.2.2.2.2.2.1
  have W0 := C.2.2.2.2.2.1
  have B := C.2.2.2.2.1.1
  obtain ⟨A1, A2, A3, A4, ws, A5, A6, A7, A8⟩ := A
  have hm' := hm
  unfold am_okm at hm'
  obtain ⟨hm', -⟩ := am_b2 hm'
  obtain ⟨hm', -⟩ := am_b2 hm'
  obtain ⟨hm', h6⟩ := am_b2 hm'
  obtain ⟨hm', -⟩ := am_b2 hm'
  obtain ⟨hm', -⟩ := am_b2 hm'
  obtain ⟨hm', -⟩ := am_b2 hm'
  obtain ⟨h1, h2⟩ := am_b2 hm'
  have hml := Nat.le_of_ble_eq_true h6
  have hW1 : s0.WarmedH (T.setVm vm₁).vm := State.WarmedH.trans W0 X₁.warmed
  have hwT : (am_cword j).before av.toArray (T.setVm vm₁) = true := am_word hW1 am_okm_gw (B _ (am_wt_mem h1))
  obtain ⟨mk', methY, cY, hn', g1, g2, -, g4, -⟩ := am_meth hwT
  have hn2 := X₁.named hn
  cases hn2.symm.trans hn'
  obtain ⟨kY, hkY, -⟩ := className_of_methodNamed hn2
  have hin : kY.init = .initialized := Cond.initialized_spec (findClass_of_methodNamed hn2) hkY (am_word (args := av.toArray) hW1 rfl (B _ (am_wt_mem h2)))
  have hsum := hst.wd
  have hle := Nat.le_of_ble_eq_true hwd
  have hh : (T.setVm vm₁).heap = H := hT
  have hold : am_old s0 H := ⟨Nat.le_trans O.1 A8.1, fun q hq => by
    rw [A8.2.1 q (Nat.lt_of_lt_of_le hq O.1) (fun z => by have := O.2.2.1 q z; unfold am_A at this; omega)]
    exact O.2.1 q hq⟩
  obtain ⟨oc, t, hs, hend, hE⟩ := am_inv X₁ (hctr P av hav) (g := F0 m pc ls rst') (ig := ig) (len := 3) (a := av.toArray) rfl (by rw [C.2.2.1, ← A2, ← A1.1]) hdg (by show 2 * 0 + (rst'.map fun v => v.category).sum ≤ 8; rw [hsum]; omega) hn2 g1 g2 hkY hin (by show d + 10 + 1 ≤ R.frames; omega) (by show 8 + (cY.maxLocals + 11) + (40 * d + 200) ≤ R.locals; omega) hR.1 hR.2
    (atoms_intro fun w hw => by rw [List.mem_singleton.mp hw]; exact hwT)
    ⟨rfl, hW1, by
      show am_hw s0 D J P h ((T.setVm vm₁).calling _ mk _).heap
      have : ((T.setVm vm₁).calling (F0 m pc ls rst') mk av.toArray).heap = H := hh
      rw [this]
      exact ⟨A4, hold, ws, A5, A6, A7.weaken fun _ _ _ h => O.2.2.1 _ h⟩⟩
  obtain ⟨⟨P', q1, ⟨z1, z2, ws', z3, z4, z5⟩, q3, q4⟩, q5, L, q6, q7⟩ := hE
  obtain ⟨T', t1, t2, X', t3, t4⟩ := am_back X₁ (g := F0 m pc ls rst') (ig := ig) (len := 3) rfl hdg q5 q6
  have hcs : ((T.setVm vm₁).calling (F0 m pc ls rst') mk av.toArray).heap = H := hh
  rw [hcs] at q4 q7
  have hP' : ∀ x ∈ P'.2.1 ++ P'.2.2, AA x := fun x hx => by
    rcases q4 x hx with z | z
    · exact Aad x z
    · exact O.2.2.2.1 x (Nat.le_trans A8.1 z)
  have hge : H.size ≤ t.heap.size := by
    have := q6.2.1
    rw [hcs] at this
    exact this
  refine ⟨rst', T', L, P', oc, hlen, X', q1, by rw [t1]; exact q3, hst.px q1, ⟨A1.px q1, A2, trivial, z1, ws', z3, by rw [t1]; exact z4, ⟨z5.1, fun i q hi => hP' _ ?_⟩, by rw [t1]; exact Nat.le_trans A8.1 hge, fun q hq hA => ?_, fun x hx => ?_⟩, ?_, ?_⟩
  · rw [← z3.2.2.1]
    exact List.mem_map.mpr ⟨q, List.mem_of_getElem? hi, rfl⟩
  · rw [t1, ← A8.2.1 q hq hA]
    have hqH : q < H.size := Nat.lt_of_lt_of_le hq A8.1
    have := am_unmoved2 q6 (q := q) (fun x hx hxq => by
      rcases q7 x hx with z | z
      · exact hA (by rw [← hxq]; exact Aad _ z)
      · rw [hxq] at z; omega) (by rw [hcs]; exact hqH)
    rw [hcs] at this
    exact this
  · rcases List.mem_append.mp hx with z | z
    · exact A8.2.2 x z
    · rcases q7 x z with y | y
      · exact Aad _ y
      · exact O.2.2.2.1 _ (Nat.le_trans A8.1 y)
  · intro v hv target hst
    subst hv
    have := t3 v hend
    rw [← this] at hst
    exact hst₁ _ (hs.trans hst)
  · intro b hv target hst
    subst hv
    have := t4 b hend
    rw [← this] at hst
    exact hst₁ _ (hs.trans hst)
end AM15
