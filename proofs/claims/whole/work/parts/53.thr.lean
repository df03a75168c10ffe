/-! WHERE A METHOD THROWS -/
def am_gw (w : Jvm.Cond) : Bool := match w with
  | .castable _ _ => true
  | .declares _ => true
  | w => goodWord w
theorem am_word {s0 s : State} {a0 args : Array Value} (hW : s0.WarmedH s.vm) {w : Jvm.Cond} (hg : am_gw w = true) (h : w.before a0 s0 = true) : w.before args s = true := by
  unfold am_gw at hg
  split at hg
  · exact va_Nw.use rfl ((va_Nw.of rfl h).warmC hW)
  · rename_i x
    have h1 : (Jvm.Cond.declares x).before a0 (s0.setVm s.vm) = true := by rw [Cond.declares_setVm hW.alike]; exact h
    exact va_tabs rfl (rfl : (s0.setVm s.vm).vm = s.vm) h1
  · exact word_at hW (good_of_word hg) h
def am_nms : List String := ["java/lang/RuntimeException", "java/lang/Exception"]
def am_xi (e : Nat) : Nat := cond (Nat.beq e 0) 143 (cond (Nat.beq e 1) 126 (cond (Nat.beq e 2) 112 134))
def am_sr1 : Jvm.Cond := .isRef (.static Bundle.tN "UNASSIGNED_STACK" Bundle.steD)
def am_sr2 : Jvm.Cond := .isRef (.static Bundle.tN "SUPPRESSED_SENTINEL" Bundle.listD)
def am_ls (w : Jvm.Cond) : Bool := match w with
  | .laysStatic _ _ _ => true
  | _ => false
def am_xck (e : Nat) : Bool := (Bundle.ownAtoms "MateProblems" (am_xi e) (am_xn e) am_nms).all (fun w => decide (w = am_sr1) || decide (w = am_sr2) || (decide (w ∈ lw_tbl) && (am_gw w || am_ls w))) && decide (Jvm.Cond.instantiable (am_xn e) 6 ∈ lw_tbl) && decide (Jvm.Cond.initialized (am_xn e) ∈ lw_tbl) && Bundle.fit (am_xn e)
theorem am_xck_0 : am_xck 0 = true := by decide +kernel
theorem am_xck_1 : am_xck 1 = true := by decide +kernel
theorem am_xck_2 : am_xck 2 = true := by decide +kernel
theorem am_xck_3 : am_xck 3 = true := by decide +kernel
theorem am_xck_ok {e : Nat} (h : e < 4) : am_xck e = true := by
  match e, h with
  | 0, _ => exact am_xck_0
  | 1, _ => exact am_xck_1
  | 2, _ => exact am_xck_2
  | 3, _ => exact am_xck_3
theorem am_zref {args : Array Value} {s : State} {C n d : String} {v : Value} {A : Nat → Prop} (h : va_Z C n d v A s s.heap) (hv : v.isRef = true) : (Jvm.Cond.isRef (.static C n d)).before args s = true := by
  obtain ⟨cf, kf, fi, f, a, cell, h1, h2, h3, h4, h5, h6, h7, h8⟩ := h
  have e : (Term.static C n d).eval args s none [] s = some v := by
    simp [Term.eval, State.fieldNamed?, h1, h2, h4, h5, h6, h7]
  unfold Jvm.Cond.before Jvm.Cond.holds
  simp only [Jvm.Cond.value, e]
  cases v <;> simp_all [Value.isRef]
theorem am_lst {s0 s : State} {a0 args : Array Value} (hW : s0.WarmedH s.vm) (ho : ∀ q : Nat, q < s0.heap.size → s.heap[q]? = s0.heap[q]?) {C n d : String} (h : (Jvm.Cond.laysStatic C n d).before a0 s0 = true) : (Jvm.Cond.laysStatic C n d).before args s = true := by
  obtain ⟨c, k, i, f, a, cell, h1, h2, h3, h4, h5, h6, h7, h8, h9⟩ := Cond.laysStatic_spec h
  obtain ⟨k', hi', hek⟩ := State.fieldFound?_setVm hW.alike h2
  exact Cond.laysStatic_of (s := s) (by rw [hW.alike.findClass]; exact h1) hi' h3 (by rw [hek]; exact h4) (by rw [ho a (Array.getElem?_eq_some_iff.mp h5).1]; exact h5) h6 h7 h8 (by rw [hek]; exact h9)
/-- a throw as it stands in the code: new, dup, ldc, invokespecial, athrow -/
def am_okx (k pc e : Nat) : Bool := Nat.blt e 4 && decide ((am_y k).cls = "MateProblems") && (match decode (am_by k) pc with | .ok (.new i, 3) => am_wt (am_ix k i) (.classLink "MateProblems" i (am_xn e)) | _ => false) && decide (decode (am_by k) (pc + 3) = .ok (.dup, 1)) &&
  (match decode (am_by k) (pc + 4) with | .ok (.ldc j, 2) => (match lw_tbl[am_ix k j]? with | some (.stringRef o i tx) => decide (o = "MateProblems") && Nat.beq i j | _ => false) | _ => false) && decide (decode (am_by k) (pc + 6) = .ok (.invokespecial (am_xi e), 3)) && decide (decode (am_by k) (pc + 9) = .ok (.athrow, 1))
section AM11
variable {k : Nat} {s0 : State} {a0 : Array Value} {D : va_G} {J : FieldType → ClassId}
variable {p : Program} {l : Launch} {e : Env} {R : Room} {s : State} {m : MethodId} {args : Array Value} {below : List Frame} {meth : Method} {c : Code} {H : Heap} {locs : List Loc} {cells slots : Nat} {Q : State → Prop}
variable {pc len : Nat} {ls : Array Slot} {rst : List Value} {P0 P : am_P} {lv st : List Value} {h0 h : am_H} {r : am_S}
theorem am_throw {x : Nat} (hl : l.stackTraces = false) (C : am_cx k s0 a0 D J (am_AA P0 s) p R s m meth c) (hpx : am_px P0 P) (A : am_at s0 D J (am_AA P0 s) s k P lv [] h ls rst H locs) (hok : am_okx k pc x = true) (hxt : c.exceptionTable.toList = [])
    (hc : cells = h.2.2.2.1 - h0.2.2.2.1) (hs : slots = h.2.2.2.2 - h0.2.2.2.2) (hm1 : h0.2.2.2.1 ≤ h.2.2.2.1) (hm2 : h0.2.2.2.2 ≤ h.2.2.2.2) (hRc : cells + 1 ≤ R.cells) (hRs : slots + 6 ≤ R.slots) (hRf : 10 ≤ R.frames) (hRl : 200 ≤ R.locals) :
    W p l e R s m args below meth c H locs cells slots (am_Z s0 D J P0 h0 (.inr x, (h.1, h.2.1, h.2.2.1, h.2.2.2.1 + 1, h.2.2.2.2 + 6)) s below) (F0 m pc ls rst) := by
  have Ahw := A.hw C
  have Aad := A.adr
  obtain ⟨A1, A2, A3, A4, ws, A5, A6, A7, A8⟩ := A
  have hrst : rst = [] := by
    cases rst with
    | nil => rfl
    | cons a b => exact A3.elim
  subst hrst
  unfold am_okx at hok
  obtain ⟨hok, k9⟩ := am_b2 hok
  obtain ⟨hok, k6⟩ := am_b2 hok
  obtain ⟨hok, k4⟩ := am_b2 hok
  obtain ⟨hok, k3⟩ := am_b2 hok
  obtain ⟨hok, k0⟩ := am_b2 hok
  obtain ⟨hx4, hcl⟩ := am_b2 hok
  rw [am_blt] at hx4
  have hcl : (am_y k).cls = "MateProblems" := of_decide_eq_true hcl
  have d3 := of_decide_eq_true k3
  have d6 := of_decide_eq_true k6
  have d9 := of_decide_eq_true k9
  have hX := am_xck_ok hx4
  unfold am_xck at hX
  simp only [Bool.and_eq_true, decide_eq_true_eq, List.all_eq_true, Bool.or_eq_true] at hX
  obtain ⟨⟨⟨hX1, hX2⟩, hX3⟩, hX4⟩ := hX
  have B := C.2.2.2.2.1
  split at k0
  · rename_i i d0
    split at k4
    · rename_i j d4
      split at k4
      · rename_i o i' tx hsr
        obtain ⟨k5, k7⟩ := am_b2 k4
        cases (show o = "MateProblems" from of_decide_eq_true k5)
        cases Nat.eq_of_beq_eq_true k7
        obtain ⟨qs, hqs⟩ := B.2.2.1 _ tx (List.mem_of_getElem? hsr)
        intro T hT X
        have Y := am_restart X (by omega) (by omega)
        generalize hS : am_here T m args below = S at Y
        have hSv : S.vm = T.vm := by rw [← hS]; rfl
        have hSh : S.heap = H := by rw [← hS, ← hT]; rfl
        have hW : s0.WarmedH S.vm := by rw [hSv]; exact State.WarmedH.trans C.2.2.2.2.2.1 X.warmed
        have hold : ∀ q : Nat, q < s0.heap.size → S.heap[q]? = s0.heap[q]? := by rw [hSh]; exact Ahw.2.1.2
        have hown : S.vm.findClass "MateProblems" = some m.cls := by rw [hSv, X.warmed.alike.findClass, ← hcl]; exact C.2.2.2.1
        have wd : ∀ {w : Jvm.Cond}, w ∈ lw_tbl → am_gw w = true → w.before args S = true := fun h1 h2 => am_word hW h2 (B.1 _ h1)
        have zz : ∀ {a b d : String} {v : Value}, va_Z a b d v (am_A s0) s0 s0.heap → va_Z a b d v (am_A s0) S S.heap := fun hZ => (hZ.moved hW.alike).kept fun a ha _ => hold a ha
        obtain ⟨vm1, cC, kC, n1, n2, n3, n4, Y1, st1⟩ := Y.newCold C.1 hown (wd (am_wt_mem k0) rfl) (wd hX2 rfl) (wd hX3 rfl) (g := F0 m pc ls []) rfl (by rw [C.2.1]; exact d0) (by show 0 + 1 ≤ R.cells - cells; omega) (by show 0 + 6 ≤ R.slots - slots; omega)
        generalize hT1 : ((T.setVm vm1).pushCell { cls := cC, slots := kC.instanceTypes.map defaultValue, vm := .none }) = T1 at Y1 st1
        have hsz : T1.heap = T.heap.push { cls := cC, slots := kC.instanceTypes.map defaultValue, vm := .none } := by rw [← hT1]; rfl
        have hcell : T1.heap[T.heap.size]? = some { cls := cC, slots := kC.instanceTypes.map defaultValue, vm := .none } := by rw [hsz]; simp
        have w1 : W p l e (am_left R cells slots) S m args below meth c T1.heap [] (0 + 1) (0 + 6) (am_Z s0 D J P0 h0 (.inr x, (h.1, h.2.1, h.2.2.1, h.2.2.2.1 + 1, h.2.2.2.2 + 6)) s below) (F0 m (pc + 3) ls [.ref T.heap.size]) := by
          refine lv_dup C.1 C.2.1 d3 rfl ?_
          refine va_ldcS C.1 C.2.1 hown (hqs.warm hW) d4 ?_
          intro T2 hT2 X2
          obtain ⟨U, u1, u2, u3, u4, u5, ce, u6, u7⟩ := X2.ctorThrowS C.1 (by rw [X2.admits.platform]; exact hl) (own := "MateProblems") (cls := am_xn x) (names := am_nms) (ic := am_xi x) hown hX4 (by decide)
            (fun w hw => by
              rcases hX1 w hw with (h1 | h1) | ⟨h1, h2 | h2⟩
              · subst h1
                obtain ⟨v, v1, v2⟩ := B.2.2.2.2.1
                exact am_zref (zz v2) v1
              · subst h1
                obtain ⟨v, v1, v2⟩ := B.2.2.2.2.2.1
                exact am_zref (zz v2) v1
              · exact wd h1 h2
              · unfold am_ls at h2
                split at h2
                · exact am_lst hW hold (B.1 _ h1)
                · cases h2)
            (fun x hx => by cases hx) (a := T.heap.size) n1 n2 (by rw [hT2]; exact hcell) (by rw [hSh, hT]; exact Nat.le_refl _) (msg := .ref qs) rfl (g := F0 m (pc + 3 + 1 + 2) ls [.ref qs, .ref T.heap.size, .ref T.heap.size]) rfl (by rw [C.2.2.1, ← A2, ← A1.1]) rfl rfl (rest := []) rfl
            (by rw [C.2.1]; exact d6) (by rw [C.2.1]; exact d9) (by rw [hxt]; intro x hx; cases hx) (by show 2 + 3 < R.frames; omega) (by show 2 * 0 + 1 + (13 * (2 + 1) + 42) ≤ R.locals; omega) C.2.2.2.2.2.2.2.2.2.1
          have hun : ∀ q, q < H.size → U.heap[q]? = H[q]? := fun q hq => by
            have := am_unmoved u5 (q := q) (by rw [hSh]; exact hq)
            rw [hSh] at this
            exact this
          have hge : H.size ≤ U.heap.size := by
            have := u5.2.1
            rw [hSh] at this
            exact this
          have u5' : s.sameButNew ({ U with vm := s.vm } : State) (locs ++ []) (cells + (0 + 1)) (slots + (0 + 6)) := am_joined X (by rw [hS]; exact u5)
          refine ⟨U, u1, .threw T.heap.size, u2, u3, ⟨P, hpx, ⟨A4, ⟨Nat.le_trans Ahw.2.1.1 hge, fun q hq => by rw [hun q (Nat.lt_of_lt_of_le hq Ahw.2.1.1)]; exact Ahw.2.1.2 q hq⟩, ws, A5, A6.kept fun i y hy => hun y.1 (A6 i y hy).lt, A7.weaken fun _ _ _ h => C.2.2.2.2.2.2.1.2.2.1 _ h⟩, ⟨hx4, T.heap.size, ce, rfl, u6, by rw [u7.vm]; rfl, ?_⟩, Aad⟩, ?_, locs, ?_, fun x hx => A8.2.2 x hx⟩
          · have := u7.cls
            rw [hW.alike.findClass] at this
            exact this
          · have h1 : S.WarmedH U.vm := u4
            have h2 : s.WarmedH S.vm := by rw [hSv]; exact X.warmed
            exact State.WarmedH.trans h2 h1
          · have e1 : h.2.2.2.1 + 1 - h0.2.2.2.1 = cells + (0 + 1) := by omega
            have e2 : h.2.2.2.2 + 6 - h0.2.2.2.2 = slots + (0 + 6) := by omega
            show s.sameButNew _ locs (h.2.2.2.1 + 1 - h0.2.2.2.1) (h.2.2.2.2 + 6 - h0.2.2.2.2)
            rw [e1, e2]
            rw [List.append_nil] at u5'
            exact u5'
        obtain ⟨t, a1, b1⟩ := w1 T1 rfl Y1
        exact ⟨t, st1 t a1, b1⟩
      · cases k4
    · cases k4
  · cases k0
end AM11
