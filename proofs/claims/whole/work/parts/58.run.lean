/-! THE MAIN THEOREM: a run of the abstract machine is a run of the real one -/
/-- where a thrown object goes in a method with handlers -/
def am_rf (pc x : Nat) : List (Nat × Nat × Nat × Nat) → Option Nat
  | [] => none
  | q :: r => cond (Nat.ble q.1 pc && Nat.blt pc q.2.1 && Nat.beq x (am_xc q.2.2.2)) (some q.2.2.1) (am_rf pc x r)
def am_okd (k pc : Nat) : Bool := (am_hl k).all (fun q => am_wt (am_ix k q.2.2.2) (.classLink (am_y k).cls q.2.2.2 (am_xn (am_xc q.2.2.2))) && Nat.blt (am_xc q.2.2.2) 4 && decide (q.2.2.2 ≠ 0)) && (List.range 4).all (fun x => match am_rf pc x (am_hl k) with
  | none => decide (am_hd k pc x = none)
  | some hp => (match decode (am_by k) hp with
    | .ok (.astore i, n) => Nat.beq n 2 && decide (am_hd k pc x = some (hp + 2, i)) && Nat.blt i (am_ml k)
    | .ok (.astore_n i, n) => Nat.beq n 1 && decide (am_hd k pc x = some (hp + 1, (i : Nat))) && Nat.blt i (am_ml k)
    | _ => false))
def am_oka (k pc : Nat) (ins : Instr) (len : Nat) : Bool := match ins with
  | .invokestatic j => am_okc k pc j len && am_okd k pc
  | .checkcast x => am_okx k pc x && am_nh k
  | .ireturn => decide (decode (am_by k) pc = .ok (.ireturn, 1)) && (match am_rt k with | some .int => true | some .boolean => true | some .char => true | _ => false)
  | .lreturn => decide (decode (am_by k) pc = .ok (.lreturn, 1)) && decide (am_rt k = some .long)
  | .areturn => decide (decode (am_by k) pc = .ok (.areturn, 1)) && (match am_rt k with | some (.object _) => true | some (.array _) => true | _ => false)
  | .return_ => decide (decode (am_by k) pc = .ok (.return_, 1)) && decide (am_rt k = none)
  | ins => am_ok k pc ins len
section AM16
variable {k : Nat} {s0 : State} {a0 : Array Value} {D : va_G} {J : FieldType → ClassId} {AA : Nat → Prop}
variable {p : Program} {l : Launch} {e : Env} {R : Room} {s : State} {m : MethodId} {args : Array Value} {below : List Frame} {meth : Method} {c : Code}
theorem am_rows {pl : Platform} (hpl : pl.magicAccessors = ({} : Platform).magicAccessors) (C : am_cx k s0 a0 D J AA p R s m meth c) {x : Nat} (hx : x < 4) {thrown : ClassId} (ht : s0.vm.findClass (am_xn x) = some thrown) {pc hp : Nat} : ∀ (es : List ExceptionTableEntry) (rs : List (Nat × Nat × Nat × Nat)), es.map (fun h => (h.startPc, h.endPc, h.handlerPc, h.catchType)) = rs →
    (∀ q ∈ rs, am_wt (am_ix k q.2.2.2) (.classLink (am_y k).cls q.2.2.2 (am_xn (am_xc q.2.2.2))) = true ∧ am_xc q.2.2.2 < 4 ∧ q.2.2.2 ≠ 0) → am_rf pc x rs = some hp → am_rws pl s m.cls pc thrown hp es
  | [], rs, e1, _, e2 => by subst e1; cases e2
  | y :: ys, rs, e1, hr, e2 => by
    subst e1
    obtain ⟨h1, h2, h3⟩ := hr _ List.mem_cons_self
    have ih := am_rows hpl C hx ht (pc := pc) (hp := hp) ys _ rfl (fun q hq => hr q (List.mem_cons_of_mem _ hq))
    change cond (Nat.ble y.startPc pc && Nat.blt pc y.endPc && Nat.beq x (am_xc y.catchType)) (some y.handlerPc) (am_rf pc x (ys.map fun h => (h.startPc, h.endPc, h.handlerPc, h.catchType))) = some hp at e2
    have hcv : covers y pc = (Nat.ble y.startPc pc && Nat.blt pc y.endPc) := by
      unfold covers
      rw [Bool.eq_iff_iff]
      simp [Nat.ble_eq, Nat.blt_eq]
    cases hc : (Nat.ble y.startPc pc && Nat.blt pc y.endPc) with
    | false =>
      simp only [hc, Bool.false_and, cond_false] at e2
      exact Or.inl ⟨by rw [hcv]; exact hc, ih e2⟩
    | true =>
      simp only [hc, Bool.true_and] at e2
      obtain ⟨t, ht1, ht2⟩ := Cond.classLink_spec C.2.2.2.1 (C.word (args := #[]) (am_wt_mem h1) rfl) pl hpl
      obtain ⟨ci, cj, g1, g2, g3⟩ := C.2.2.2.2.1.2.2.2.1 x (am_xc y.catchType) hx h2
      have W0 := C.2.2.2.2.2.1.alike
      have hcj : t = cj := by
        rw [W0.findClass] at ht1
        exact Option.some.inj (ht1.symm.trans g2)
      subst hcj
      cases ht.symm.trans g1
      refine Or.inr ⟨by rw [hcv]; exact hc, h3, t, ht2, ?_⟩
      by_cases hq : x = am_xc y.catchType
      · left
        rw [show Nat.beq x (am_xc y.catchType) = true from by rw [← hq]; exact Nat.beq_refl x] at e2
        exact ⟨by rw [W0.assignable, g3]; exact decide_eq_true hq, Option.some.inj e2⟩
      · right
        rw [show Nat.beq x (am_xc y.catchType) = false from by
          cases hb : Nat.beq x (am_xc y.catchType) with
          | false => rfl
          | true => exact absurd (Nat.eq_of_beq_eq_true hb) hq] at e2
        exact ⟨by rw [W0.assignable, g3]; exact decide_eq_false hq, ih e2⟩
end AM16
section AM17
variable {k d n0 : Nat} {s0 : State} {a0 : Array Value} {D : va_G} {J : FieldType → ClassId} {P0 : am_P} {h0 : am_H}
variable {p : Program} {l : Launch} {e : Env} {R : Room} {s : State} {m : MethodId} {args : Array Value} {below : List Frame} {meth : Method} {c : Code}
theorem am_cs {H : Heap} {locs : List Loc} {Q : State → Prop} {c1 c2 s1 s2 : Nat} {g : JFrame} (h1 : c1 = c2) (h2 : s1 = s2) (w : W p l e R s m args below meth c H locs c1 s1 Q g) : W p l e R s m args below meth c H locs c2 s2 Q g := by subst h1; subst h2; exact w
theorem am_run (hl : l.stackTraces = false) (hlk : ∀ pc ins len, am_cd k pc = some (ins, len) → am_oka k pc ins len = true) (hms : ∀ j, 1 ≤ j → j ≤ 154 → am_okm j = true) (IH : ∀ j as h o, 1 ≤ j → j ≤ 154 → am_cl d n0 j as h = some o → am_ctr l s0 D J d j as h o)
    (C : am_cx k s0 a0 D J (am_AA P0 s) p R s m meth c) (hxt : c.exceptionTable.toList.map (fun h => (h.startPc, h.endPc, h.handlerPc, h.catchType)) = am_hl k) (hnh : am_nh k = true → am_hl k = []) (hRf : d + 11 ≤ R.frames) (hRl : 40 * d + 240 ≤ R.locals) :
    ∀ (n pc : Nat) (lv st : List Value) (h : am_H) (o : am_O), am_rn (am_cl d n0) k n (pc, lv, st, h) = some o → ∀ (P : am_P) (ls : Array Slot) (rst : List Value) (H : Heap) (locs : List Loc), am_px P0 P → am_at s0 D J (am_AA P0 s) s k P lv st h ls rst H locs → am_up h0 h →
      (o.2.2.2.2.1 - h0.2.2.2.1 ≤ R.cells ∧ o.2.2.2.2.2 - h0.2.2.2.2 ≤ R.slots) → W p l e R s m args below meth c H locs (h.2.2.2.1 - h0.2.2.2.1) (h.2.2.2.2 - h0.2.2.2.2) (am_Z s0 D J P0 h0 o s below) (F0 m pc ls rst) := by
  intro n
  induction n with
  | zero => intro pc lv st h o e1; cases e1
  | succ n ih =>
    intro pc lv st h o e1 P ls rst H locs hpx A hup hR
    have hcall : ∀ j as h o, am_cl d n0 j as h = some o → am_up h o.2 := fun j as h o z => am_cl_up d n0 j as h o z
    have A8 := A.2.2.2.2
    obtain ⟨ins, len, hcd, hs⟩ := am_stp_inv (show am_stp (am_cl d n0) k (am_rn (am_cl d n0) k n) (pc, lv, st, h) = some o from e1)
    have hok := hlk pc ins len hcd
    have hcb : c.code = am_by k := C.2.1
    rcases hs with ⟨j, as, st', o', rfl, hpop, hwd, hrv, hcl, h6⟩ | ⟨x, rfl, rfl, rfl⟩ | ⟨x, rfl, rfl, rfl⟩ | ⟨x, rfl, rfl, rfl⟩ | ⟨x, rfl, rfl, rfl⟩ | ⟨rfl, rfl, rfl⟩ | ⟨r, hr1, hr2⟩
    · obtain ⟨hok, hod⟩ := am_b2 (show (am_okc k pc j len && am_okd k pc) = true from hok)
      have hjj : 1 ≤ j ∧ j ≤ 154 := by
        have := hok
        unfold am_okc at this
        obtain ⟨this, -⟩ := am_b2 this
        obtain ⟨z1, z2⟩ := am_b2 this
        exact ⟨Nat.le_of_ble_eq_true z1, Nat.le_of_ble_eq_true z2⟩
      have hu := hcall _ _ _ _ hcl
      have huo : am_up o'.2 o.2 := by
        rcases h6 with ⟨v, -, h7⟩ | ⟨x, -, ⟨t, i, -, h7⟩ | ⟨-, -, rfl⟩⟩
        · exact am_rn_up hcall n _ _ _ _ _ h7
        · exact am_rn_up hcall n _ _ _ _ _ h7
        · exact am_up.rf _
      have e1 : h.2.2.2.1 - h0.2.2.2.1 + (o'.2.2.2.2.1 - h.2.2.2.1) = o'.2.2.2.2.1 - h0.2.2.2.1 := by have := hup.1; have := hu.1; omega
      have e2 : h.2.2.2.2 - h0.2.2.2.2 + (o'.2.2.2.2.2 - h.2.2.2.2) = o'.2.2.2.2.2 - h0.2.2.2.2 := by have := hup.2; have := hu.2; omega
      intro T hT X
      obtain ⟨rst', T', L, P', oc, hlen, X', q1, q2, q3, A', st1, st2⟩ := am_cal C hok (hms j hjj.1 hjj.2) A hpop hwd hrv (IH j as h o' hjj.1 hjj.2 hcl) hRf hRl ⟨by rw [e1]; have := huo.1; have := hR.1; omega, by rw [e2]; have := huo.2; have := hR.2; omega⟩ hT X
      rw [e1, e2] at X'
      subst hlen
      obtain ⟨a1, a2, -, a4⟩ := A'
      rcases h6 with ⟨v, hv, h7⟩ | ⟨x, hv, h7⟩
      · rw [hv] at q2
        cases v with
        | none =>
          obtain ⟨t, b1, b2⟩ := ih (pc + 3) lv st' o'.2 o h7 P' ls rst' T'.heap (locs ++ L) (hpx.tr q1) ⟨a1, a2, q3, a4⟩ (hup.tr hu) hR T' rfl X'
          exact ⟨t, st1 none q2 t b1, b2⟩
        | some v =>
          obtain ⟨w, w1, w2⟩ := q2
          obtain ⟨t, b1, b2⟩ := ih (pc + 3) lv (v :: st') o'.2 o h7 P' ls (w :: rst') T'.heap (locs ++ L) (hpx.tr q1) ⟨a1, a2, ⟨w1, q3⟩, a4⟩ (hup.tr hu) hR T' rfl X'
          exact ⟨t, st1 (some w) w2 t b1, b2⟩
      · rw [hv] at q2
        obtain ⟨hx4, b, cell, w2, g1, g2, g3⟩ := q2
        have hpl : e.platform.magicAccessors = ({} : Platform).magicAccessors := by rw [X.admits.platform]
        rcases h7 with ⟨t, i, hhd, h7⟩ | ⟨hhd, hn, rfl⟩
        · unfold am_okd at hod
          obtain ⟨hd1, hd2⟩ := am_b2 hod
          have hd2 := List.all_eq_true.mp hd2 x (List.mem_range.mpr hx4)
          split at hd2
          · rw [hhd] at hd2
            cases of_decide_eq_true hd2
          · rename_i hp hrf
            have hrw := am_rows hpl C hx4 g3 (pc := pc) (hp := hp) c.exceptionTable.toList (am_hl k) hxt (fun q hq => by
              have := List.all_eq_true.mp hd1 q hq
              obtain ⟨z1, z2⟩ := am_b2 this
              obtain ⟨z1, z3⟩ := am_b2 z1
              rw [am_blt] at z3
              exact ⟨z1, z3, of_decide_eq_true z2⟩) hrf
            have hk : ∃ kk, s.vm.classes[cell.cls]? = some kk := by
              obtain ⟨ci, cj, z1, z2, z3⟩ := C.2.2.2.2.1.2.2.2.1 x x hx4 hx4
              cases g3.symm.trans z1
              cases z1.symm.trans z2
              have W0 := C.2.2.2.2.2.1.alike
              have hsf : s.vm.findClass (am_xn x) = some cell.cls := by rw [W0.findClass]; exact g3
              exact Vm.classAt_of_findClass hsf
            obtain ⟨vm', X'', st3⟩ := am_catch X' (g := F0 m pc ls rst') rfl g1 g2 hk hrw
            have w : W p l e R s m args below meth c T'.heap (locs ++ L) (o'.2.2.2.2.1 - h0.2.2.2.1) (o'.2.2.2.2.2 - h0.2.2.2.2) (am_Z s0 D J P0 h0 o s below) (F0 m hp ls [.ref b]) := by
              have hsz : am_ml k = ls.size := by rw [a1.1, a2]
              split at hd2
              · rename_i i' n' hdd
                obtain ⟨z1, z4⟩ := am_b2 hd2
                obtain ⟨z1, z3⟩ := am_b2 z1
                cases Nat.eq_of_beq_eq_true z1
                rw [hhd] at z3
                cases of_decide_eq_true z3
                rw [am_blt, hsz] at z4
                exact lv_astore C.1 C.2.1 hdd (am_all_has a1.2.1) z4 rfl fun ls' hh => ih _ _ _ _ o h7 P' ls' [] T'.heap (locs ++ L) (hpx.tr q1) ⟨a1.st1 (Or.inl rfl) hh rfl, by rw [am_st1_len]; exact a2, trivial, a4⟩ (hup.tr hu) hR
              · rename_i i' n' hdd
                obtain ⟨z1, z4⟩ := am_b2 hd2
                obtain ⟨z1, z3⟩ := am_b2 z1
                cases Nat.eq_of_beq_eq_true z1
                rw [hhd] at z3
                cases of_decide_eq_true z3
                rw [am_blt, hsz] at z4
                exact lv_astore_n C.1 C.2.1 hdd rfl (am_all_has a1.2.1) z4 rfl fun ls' hh => ih _ _ _ _ o h7 P' ls' [] T'.heap (locs ++ L) (hpx.tr q1) ⟨a1.st1 (Or.inl rfl) hh rfl, by rw [am_st1_len]; exact a2, trivial, a4⟩ (hup.tr hu) hR
              · cases hd2
            obtain ⟨t', b1, b2⟩ := w (T'.setVm vm') rfl X''
            exact ⟨t', st2 b w2 t' (st3 t' b1), b2⟩
        · have hes : c.exceptionTable.toList = [] := by
            rw [hnh hn] at hxt
            exact List.map_eq_nil_iff.mp hxt
          obtain ⟨u1, u2, u3, u4, u5⟩ := X'.leaveThrown b (g := F0 m pc ls rst') rfl rfl rfl (by rw [hes]; intro x hx; cases hx) C.2.2.2.2.2.2.2.2.2.1
          refine ⟨_, st2 b w2 _ u1, .threw b, u2, u3, ⟨P', hpx.tr q1, ?_, ⟨hx4, b, cell, rfl, g1, g2, g3⟩, ?_⟩, u4, locs ++ L, u5, ?_⟩
          · exact am_at.hw C (lv := lv) (st := []) (rst := []) ⟨a1, a2, trivial, a4⟩
          · exact am_at.adr (lv := lv) (st := []) (rst := []) (ls := ls) (s0 := s0) (D := D) (J := J) (s := s) (k := k) (h := o'.2) (H := T'.heap) (locs := locs ++ L) ⟨a1, a2, trivial, a4⟩
          · intro y hy
            obtain ⟨-, ws, -, -, -, a8⟩ := a4
            exact a8.2.2 y hy
    · obtain ⟨hok, hn⟩ := am_b2 (show (am_okx k pc x && am_nh k) = true from hok)
      have hes : c.exceptionTable.toList = [] := by
        rw [hnh hn] at hxt
        exact List.map_eq_nil_iff.mp hxt
      have z1 : h.2.2.2.1 + 1 - h0.2.2.2.1 ≤ R.cells := hR.1
      have z2 : h.2.2.2.2 + 6 - h0.2.2.2.2 ≤ R.slots := hR.2
      have := hup.1
      have := hup.2
      exact am_throw hl C hpx A hok hes rfl rfl hup.1 hup.2 (by omega) (by omega) (by omega) (by omega)
    · obtain ⟨z1, z2⟩ := am_b2 (show (decide (decode (am_by k) pc = .ok (.ireturn, 1)) && (match am_rt k with | some .int => true | some .boolean => true | some .char => true | _ => false)) = true from hok)
      have hdd := of_decide_eq_true z1
      have hA := A
      obtain ⟨A1, A2, A3, A4, ws, A5, A6, A7, A8⟩ := A
      obtain ⟨w0, r1, rfl, hv0, B0⟩ := am_vs.c1 A3
      cases (show w0 = .int x from hv0)
      cases r1 with
      | cons _ _ => exact B0.elim
      | nil =>
        have key : ∀ ty, am_rt k = some ty → narrow ty (.int x) = .int (am_nar (am_rt k) x) → W p l e R s m args below meth c H locs (h.2.2.2.1 - h0.2.2.2.1) (h.2.2.2.2 - h0.2.2.2.2) (am_Z s0 D J P0 h0 (.inl (some (.int (am_nar (am_rt k) x))), h) s below) (F0 m pc ls [.int x]) := fun ty hty hna =>
          am_fin C hpx hA (v := some (.int (am_nar (am_rt k) x))) (w := some (.int (am_nar (am_rt k) x))) ⟨_, rfl, rfl⟩ rfl rfl (am_zret C.1 C.2.1 (by rw [C.2.2.2.2.2.2.2.2.1]; exact hty) hna (fun t ht _ => ⟨rfl, ht⟩) (fun q hq => A8.2.2 q hq) hdd C.2.2.2.2.2.2.2.2.2.1)
        split at z2
        · rename_i hty; exact key .int hty (by rw [hty]; rfl)
        · rename_i hty; exact key .boolean hty (by rw [hty]; rfl)
        · rename_i hty; exact key .char hty (by rw [hty]; rfl)
        · cases z2
    · obtain ⟨z1, z2⟩ := am_b2 (show (decide (decode (am_by k) pc = .ok (.lreturn, 1)) && decide (am_rt k = some .long)) = true from hok)
      have hdd := of_decide_eq_true z1
      have hA := A
      obtain ⟨A1, A2, A3, A4, ws, A5, A6, A7, A8⟩ := A
      obtain ⟨w0, r1, rfl, hv0, B0⟩ := am_vs.c1 A3
      cases (show w0 = .long x from hv0)
      cases r1 with
      | cons _ _ => exact B0.elim
      | nil =>
        have hlo := C.2.2.2.2.2.2.2.2.2.1
        exact am_fin C hpx hA (v := some (.long x)) (w := some (.long x)) ⟨_, rfl, rfl⟩ rfl rfl (W.lret C.1 C.2.1 (by rw [C.2.2.2.2.2.2.2.2.1]; exact of_decide_eq_true z2) (fun t ht _ => ⟨rfl, ht⟩) (fun q hq => A8.2.2 q hq) hdd hlo)
    · obtain ⟨z1, z2⟩ := am_b2 (show (decide (decode (am_by k) pc = .ok (.areturn, 1)) && (match am_rt k with | some (.object _) => true | some (.array _) => true | _ => false)) = true from hok)
      have hdd := of_decide_eq_true z1
      have hA := A
      obtain ⟨A1, A2, A3, A4, ws, A5, A6, A7, A8⟩ := A
      obtain ⟨w0, r1, rfl, hv0, B0⟩ := am_vs.c1 A3
      obtain ⟨q, hq, rfl⟩ := hv0
      cases r1 with
      | cons _ _ => exact B0.elim
      | nil =>
        have hlo := C.2.2.2.2.2.2.2.2.2.1
        have key : ∀ ty, am_rt k = some ty → ((∃ n, ty = .object n) ∨ ∃ t, ty = .array t) → W p l e R s m args below meth c H locs (h.2.2.2.1 - h0.2.2.2.1) (h.2.2.2.2 - h0.2.2.2.2) (am_Z s0 D J P0 h0 (.inl (some (.ref x)), h) s below) (F0 m pc ls [.ref q]) := fun ty hty ho =>
          am_fin C hpx hA (v := some (.ref x)) (w := some (.ref q)) ⟨_, ⟨q, hq, rfl⟩, rfl⟩ rfl rfl (W.aret C.1 C.2.1 (by rw [C.2.2.2.2.2.2.2.2.1]; exact hty) ho (Or.inr ⟨q, rfl⟩) (fun t ht _ => ⟨rfl, ht⟩) (fun q hq => A8.2.2 q hq) hdd hlo)
        split at z2
        · rename_i nm hty; exact key _ hty (Or.inl ⟨nm, rfl⟩)
        · rename_i nm hty; exact key _ hty (Or.inr ⟨nm, rfl⟩)
        · cases z2
    · obtain ⟨z1, z2⟩ := am_b2 (show (decide (decode (am_by k) pc = .ok (.return_, 1)) && decide (am_rt k = none)) = true from hok)
      have hdd := of_decide_eq_true z1
      have hA := A
      obtain ⟨A1, A2, A3, A4, ws, A5, A6, A7, A8⟩ := A
      cases rst with
      | cons _ _ => exact A3.elim
      | nil =>
        have hlo := C.2.2.2.2.2.2.2.2.2.1
        exact am_fin C hpx hA (v := none) (w := none) rfl rfl rfl (W.vret C.1 C.2.1 (by rw [C.2.2.2.2.2.2.2.2.1]; exact of_decide_eq_true z2) (fun t ht _ => ⟨rfl, ht⟩) (fun q hq => A8.2.2 q hq) hdd hlo)
    · have hok' : am_ok k pc ins len = true := by
        unfold am_oka at hok
        split at hok
        all_goals first
          | exact hok
          | exact nomatch (show (none : Option am_S) = some r from hr1)
      have hu := am_o1_up hr1
      have hu2 := am_rn_up hcall n r.1 r.2.1 r.2.2.1 r.2.2.2 o hr2
      have e1 : h.2.2.2.1 - h0.2.2.2.1 + (r.2.2.2.2.2.2.1 - h.2.2.2.1) = r.2.2.2.2.2.2.1 - h0.2.2.2.1 := by have := hup.1; have := hu.1; omega
      have e2 : h.2.2.2.2 - h0.2.2.2.2 + (r.2.2.2.2.2.2.2 - h.2.2.2.2) = r.2.2.2.2.2.2.2 - h0.2.2.2.2 := by have := hup.2; have := hu.2; omega
      refine am_o1_ok C hok' A hr1 ⟨by rw [e1]; have := hu2.1; have := hR.1; omega, by rw [e2]; have := hu2.2; have := hR.2; omega⟩ (by omega) (by omega) fun P' ls' rst' H' locs' hpx' A' => ?_
      exact am_cs e1.symm e2.symm (ih r.1 r.2.1 r.2.2.1 r.2.2.2 o hr2 P' ls' rst' H' locs' (hpx.tr hpx') A' (hup.tr hu) hR)
end AM17
