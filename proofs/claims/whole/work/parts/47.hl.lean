section AM6
variable {k : Nat} {s0 : State} {a0 : Array Value} {D : va_G} {J : FieldType → ClassId} {AA : Nat → Prop}
variable {p : Program} {l : Launch} {e : Env} {R : Room} {s : State} {m : MethodId} {args : Array Value} {below : List Frame} {meth : Method} {c : Code} {H : Heap} {locs : List Loc} {cells slots : Nat} {Q : State → Prop}
variable {pc len : Nat} {ls : Array Slot} {rst : List Value} {P : am_P} {lv st : List Value} {h : am_H} {r : am_S}
/-- an array of references in the heap -/
theorem am_wr.arq {ws : va_W} (g : am_wr J P h ws) {a q n : Nat} {ty : FieldType} {f : Nat → Option Nat} (ha : ¬ a < 100) (e : am_get h a = some (.inr (ty, n, .inr (.inr (.inr (.inr f)))))) (hq : am_ad P a = some q) : ty ∈ am_tl ∧ ∃ f', ws[am_ps h a]? = some (q, .inl (J ty, n, .inr (.inr (.inr (.inr f'))))) ∧ ∀ j, am_or P (f j) (f' j) := by
  obtain ⟨q', y, g1, g2, g3, -⟩ := g.at ha e
  cases hq.symm.trans g1
  obtain ⟨ht, ⟨n', x'⟩, rfl, h1, f', h2, h3⟩ := g3
  cases (show n' = n from h1)
  cases (show x' = _ from h2)
  exact ⟨ht, f', g2, h3⟩
theorem am_tl_obj {C : String} (h : FieldType.object C ∈ am_tl) : C = "MateProblems$MoveRow" := by
  simpa [am_tl] using h
theorem ao_aaload (C : am_cx k s0 a0 D J AA p R s m meth c) (hok : am_ok k pc .aaload len = true) (A : am_at s0 D J AA s k P lv st h ls rst H locs) (e1 : am_o1 k .aaload (pc + len) lv st h = some r) (G : am_go s0 D J AA p l e R s m args below meth c k P cells slots h Q r) : W p l e R s m args below meth c H locs cells slots Q (F0 m pc ls rst) := by
  obtain ⟨r0, hd, hro⟩ := am_ok_r hok
  obtain ⟨hn, hr⟩ : len = 1 ∧ r0 = .aaload := by
    have q : (am_smp .aaload && Nat.beq len 1 && decide (r0 = .aaload)) = true := hro
    simp only [Bool.and_eq_true, decide_eq_true_eq] at q
    exact ⟨Nat.eq_of_beq_eq_true q.1.2, q.2⟩
  subst hn; subst hr
  obtain ⟨A1, A2, A3, A4, ws, A5, A6, A7, A8⟩ := A
  change Option.map _ (match (generalizing := false) st with | .int i :: .ref a :: st => (match am_get h a with | some (.inr (.object _, n, .inr (.inr (.inr (.inr f))))) => cond (am_in i n) (match f i.toNatClampNeg with | some q => some (pc + 1, Value.ref q :: st, h) | none => none) none | _ => none) | _ => none) = some r at e1
  split at e1
  · rename_i i a st
    obtain ⟨w0, r0, rfl, hv0, B0⟩ := am_vs.c1 A3
    cases (show w0 = .int i from hv0)
    obtain ⟨w1, r1, rfl, hv1, B1⟩ := am_vs.c1 B0
    obtain ⟨q, hq, rfl⟩ := hv1
    split at e1
    · rename_i C0 n f hg
      cases hin : am_in i n with
      | false => rw [hin] at e1; cases e1
      | true => ?_
      rw [hin] at e1
      simp only [cond_true] at e1
      split at e1
      · rename_i x hx
        cases e1
        have ha : ¬ a < 100 := by
          intro ha
          obtain ⟨q', -, z2⟩ := A4.1 a _ (am_get_lo hg ha) ha
          exact z2.elim
        obtain ⟨ht, f', hw, hf⟩ := A5.arq ha hg hq
        have hC := am_tl_obj ht
        subst hC
        have hfi := hf i.toNatClampNeg
        rw [hx] at hfi
        obtain ⟨y, hy1, hy2⟩ := hfi
        refine va_aldq C.1 C.2.1 C.K A6 (am_ps h a) 3 hw rfl (am_in_vp hin) hd ?_
        rw [hy2]
        exact G.same ⟨A1, A2, ⟨⟨y, hy1, rfl⟩, B1⟩, A4, ws, A5, A6, A7, A8⟩
      · cases e1
    · cases e1
  · cases e1
theorem ao_aastore (C : am_cx k s0 a0 D J AA p R s m meth c) (hok : am_ok k pc .aastore len = true) (A : am_at s0 D J AA s k P lv st h ls rst H locs) (e1 : am_o1 k .aastore (pc + len) lv st h = some r) (G : am_go s0 D J AA p l e R s m args below meth c k P cells slots h Q r) : W p l e R s m args below meth c H locs cells slots Q (F0 m pc ls rst) := by
  obtain ⟨r0, hd, hro⟩ := am_ok_r hok
  obtain ⟨hn, hr⟩ : len = 1 ∧ r0 = .aastore := by
    have q : (am_smp .aastore && Nat.beq len 1 && decide (r0 = .aastore)) = true := hro
    simp only [Bool.and_eq_true, decide_eq_true_eq] at q
    exact ⟨Nat.eq_of_beq_eq_true q.1.2, q.2⟩
  subst hn; subst hr
  obtain ⟨A1, A2, A3, A4, ws, A5, A6, A7, A8⟩ := A
  change Option.map _ (match (generalizing := false) st with | .ref v :: .int i :: .ref a :: st => (match am_get h a with | some (.inr (.object C, n, .inr (.inr (.inr (.inr f))))) => (match am_get h v with | some (.inl (ci, _)) => cond (Nat.blt a 100) none (cond (Nat.blt v 100) none (cond (decide (am_nm ci = C)) (cond (am_in i n) (some (pc + 1, st, am_put h a (.inr (.object C, n, .inr (.inr (.inr (.inr (va_up f i.toNatClampNeg (some v))))))))) none) none)) | _ => none) | _ => none) | _ => none) = some r at e1
  split at e1
  · rename_i v i a st
    obtain ⟨w0, r0, rfl, hv0, B0⟩ := am_vs.c1 A3
    obtain ⟨qv, hqv, rfl⟩ := hv0
    obtain ⟨w1, r1, rfl, hv1, B1⟩ := am_vs.c1 B0
    cases (show w1 = .int i from hv1)
    obtain ⟨w2, r2, rfl, hv2, B2⟩ := am_vs.c1 B1
    obtain ⟨q, hq, rfl⟩ := hv2
    split at e1
    · rename_i C0 n f hg
      split at e1
      · rename_i ci fs hgv
        by_cases ha : a < 100
        · rw [show Nat.blt a 100 = true from by rw [am_blt]; exact ha] at e1
          cases e1
        · have hb := A4.noobj hgv
          rw [am_nblt ha, am_nblt hb] at e1
          by_cases hnm : am_nm ci = C0
          · rw [decide_eq_true hnm] at e1
            cases hin : am_in i n with
            | false => rw [hin] at e1; cases e1
            | true => ?_
            rw [hin] at e1
            cases e1
            obtain ⟨ht, f', hw, hf⟩ := A5.arq ha hg hq
            obtain ⟨fs', hwv, hfs⟩ := A5.obj hb hgv hqv
            obtain ⟨rc, hrc, -⟩ := A6 _ _ hwv
            have hn2 : rc.1 = C0 := (am_clc_ok hrc).2.2.2.1.trans hnm
            subst hn2
            have hC := am_tl_obj ht
            refine va_astq C.1 C.2.1 C.K A6 A7 A8 (am_ps h a) 3 (am_ps h v) ci hw (by rw [hC]; rfl) hwv hrc (am_in_vp hin) hd fun H1 locs1 P1 D1 S1 => ?_
            refine G.put ⟨A1, A2, B2, A4.put, _, A5.put ha hg hw ⟨ht, (n, .inr (.inr (.inr (.inr (va_up f' i.toNatClampNeg (some qv)))))), rfl, rfl, _, rfl, fun j => ?_⟩, P1, D1, S1⟩
            unfold va_up
            by_cases hj : j = i.toNatClampNeg
            · rw [if_pos hj, if_pos hj]; exact ⟨qv, hqv, rfl⟩
            · rw [if_neg hj, if_neg hj]; exact hf j
          · rw [decide_eq_false hnm] at e1
            cases e1
      · cases e1
    · cases e1
  · cases e1
theorem ao_arraylength (C : am_cx k s0 a0 D J AA p R s m meth c) (hok : am_ok k pc .arraylength len = true) (A : am_at s0 D J AA s k P lv st h ls rst H locs) (e1 : am_o1 k .arraylength (pc + len) lv st h = some r) (G : am_go s0 D J AA p l e R s m args below meth c k P cells slots h Q r) : W p l e R s m args below meth c H locs cells slots Q (F0 m pc ls rst) := by
  obtain ⟨r0, hd, hro⟩ := am_ok_r hok
  obtain ⟨hn, hr⟩ : len = 1 ∧ r0 = .arraylength := by
    have q : (am_smp .arraylength && Nat.beq len 1 && decide (r0 = .arraylength)) = true := hro
    simp only [Bool.and_eq_true, decide_eq_true_eq] at q
    exact ⟨Nat.eq_of_beq_eq_true q.1.2, q.2⟩
  subst hn; subst hr
  obtain ⟨A1, A2, A3, A4, ws, A5, A6, A7, A8⟩ := A
  have hi : ∀ {a q n : Nat} {ty : FieldType} {x : (Nat → Int32) ⊕ (Nat → Int64) ⊕ (Nat → UInt32) ⊕ (Nat → UInt64) ⊕ (Nat → Option Nat)}, ¬ a < 100 → am_get h a = some (.inr (ty, n, x)) → am_ad P a = some q → ∀ {rst : List Value}, W p l e R s m args below meth c H locs cells slots Q (F0 m (pc + 1) ls (.int (Int32.ofNat n) :: rst)) → W p l e R s m args below meth c H locs cells slots Q (F0 m pc ls (.ref q :: rst)) := by
    intro a q n ty x ha hg hq rst kk
    obtain ⟨q', y, g1, g2, g3, -⟩ := A5.at ha hg
    cases hq.symm.trans g1
    obtain ⟨ht, x', rfl, h1, -⟩ := g3
    obtain ⟨t0, h0⟩ := List.getElem?_of_mem ht
    exact va_alen C.1 C.2.1 C.K A6 (am_ps h a) t0 g2 (ty := ty) (by rw [List.getElem?_map, h0]; rfl) (by rw [h1]) hd kk
  change Option.map _ (match (generalizing := false) st with | .ref a :: st => (match am_get h a with | some (.inr (.int, n, _)) => some (pc + 1, Value.int (Int32.ofNat n) :: st, h) | some (.inr (.char, n, _)) => some (pc + 1, Value.int (Int32.ofNat n) :: st, h) | some (.inr (.long, n, _)) => some (pc + 1, Value.int (Int32.ofNat n) :: st, h) | _ => none) | _ => none) = some r at e1
  split at e1
  · rename_i a st
    obtain ⟨w0, r0, rfl, hv0, B0⟩ := am_vs.c1 A3
    obtain ⟨q, hq, rfl⟩ := hv0
    split at e1
    · rename_i n x hg
      cases e1
      by_cases ha : a < 100
      · obtain ⟨q', z1, z2⟩ := A4.1 a _ (am_get_lo hg ha) ha
        cases (am_ad_lo hq ha).symm.trans z1
        rcases x with f | f | f | f | f
        · exact va_tlen C.1 C.2.1 (C.T z2) A8 rfl hd (G.same ⟨A1, A2, ⟨rfl, B0⟩, A4, ws, A5, A6, A7, A8⟩)
        all_goals exact z2.elim
      · exact hi ha hg hq (G.same ⟨A1, A2, ⟨rfl, B0⟩, A4, ws, A5, A6, A7, A8⟩)
    · rename_i n x hg
      cases e1
      by_cases ha : a < 100
      · obtain ⟨q', z1, z2⟩ := A4.1 a _ (am_get_lo hg ha) ha
        exact z2.elim
      · exact hi ha hg hq (G.same ⟨A1, A2, ⟨rfl, B0⟩, A4, ws, A5, A6, A7, A8⟩)
    · rename_i n x hg
      cases e1
      by_cases ha : a < 100
      · obtain ⟨q', z1, z2⟩ := A4.1 a _ (am_get_lo hg ha) ha
        exact z2.elim
      · exact hi ha hg hq (G.same ⟨A1, A2, ⟨rfl, B0⟩, A4, ws, A5, A6, A7, A8⟩)
    · cases e1
  · cases e1
/-- the goal behind an instruction that makes a cell -/
theorem am_go.new {nx n : Nat} {mm : Bool} {lv' st' : List Value} {h' : am_H} (G : am_go s0 D J AA p l e R s m args below meth c k P cells slots h Q (nx, lv', st', h')) {ls' : Array Slot} {rst' : List Value} {q : Nat} (hn : h'.2.2.2.1 = h.2.2.2.1 + 1) (hs : h'.2.2.2.2 = h.2.2.2.2 + n) (A : am_at s0 D J AA s k (am_pn mm P q) lv' st' h' ls' rst' H locs) : W p l e R s m args below meth c H locs (cells + 1) (slots + n) Q (F0 m nx ls' rst') := by
  have g := G (am_pn mm P q) ls' rst' H locs (am_pn_px mm P q) A
  simp only [hn, hs, Nat.add_sub_cancel_left] at g
  exact g
theorem am_z0.pn {mm : Bool} {q : Nat} {z : List am_C} (Z : am_z0 s0 P z) : am_z0 s0 (am_pn mm P q) z := by
  have : (am_pn mm P q).1 = P.1 := by cases mm <;> rfl
  unfold am_z0 at Z ⊢
  rw [this]
  exact Z
theorem am_hA (C : am_cx k s0 a0 D J AA p R s m meth c) : ∀ q, s.heap.size ≤ q → AA q := C.2.2.2.2.2.2.1.2.2.2.1
theorem ao_new {ci : Nat} (C : am_cx k s0 a0 D J AA p R s m meth c) (hok : am_ok k pc (.new ci) len = true) (A : am_at s0 D J AA s k P lv st h ls rst H locs) (e1 : am_o1 k (.new ci) (pc + len) lv st h = some r) (hR : cells + (r.2.2.2.2.2.2.1 - h.2.2.2.1) ≤ R.cells ∧ slots + (r.2.2.2.2.2.2.2 - h.2.2.2.2) ≤ R.slots) (G : am_go s0 D J AA p l e R s m args below meth c k P cells slots h Q r) : W p l e R s m args below meth c H locs cells slots Q (F0 m pc ls rst) := by
  obtain ⟨r0, hd, hro⟩ := am_ok_r hok
  obtain ⟨A1, A2, A3, A4, ws, A5, A6, A7, A8⟩ := A
  change Option.map _ (Option.map (fun r => (pc + len, Value.ref r.1 :: st, r.2)) (am_new h (am_rc ci) (.inl (ci, am_df ci)) (am_df ci).length)) = some r at e1
  cases hnw : am_new h (am_rc ci) (.inl (ci, am_df ci)) (am_df ci).length with
  | none => rw [hnw] at e1; cases e1
  | some x =>
    obtain ⟨a, h'⟩ := x
    rw [hnw] at e1
    cases e1
    change (match (generalizing := false) r0 with | .new i => Nat.beq len 3 && Nat.blt ci 9 && am_wt (am_ix k i) (.classLink (am_y k).cls i (am_nm ci)) | _ => false) = true at hro
    split at hro
    · rename_i i
      obtain ⟨h1, h3⟩ := am_b2 hro
      obtain ⟨h1, h2⟩ := am_b2 h1
      cases Nat.eq_of_beq_eq_true h1
      rw [am_blt] at h2
      have hlc : ci < am_cls.length := h2
      have hqc : am_cls[ci]? = some am_cls[ci] := List.getElem?_eq_getElem hlc
      generalize am_cls[ci] = qc at hqc
      have O := am_clc_ok hqc
      obtain ⟨nm, T, N⟩ := qc
      obtain ⟨O1, O2, O3, O4, O5, O6, O7⟩ := O
      cases (show nm = am_nm ci from O4)
      cases (show (am_df ci).length = N from O5)
      have key : ∀ q : Nat, am_wr J (am_pn (am_rc ci) P q) h' (ws ++ [(q, .inr (ci, am_df ci))]) ∧ am_ad (am_pn (am_rc ci) P q) a = some q ∧ h'.1 = h.1 ∧ h'.2.2.2.1 = h.2.2.2.1 + 1 ∧ h'.2.2.2.2 = h.2.2.2.2 + (am_df ci).length :=
        fun q => A5.new hnw ⟨_, rfl, am_vs.self O6⟩
      have hn := (key 0).2.2.2.1
      have hs := (key 0).2.2.2.2
      simp only [hn, hs, Nat.add_sub_cancel_left] at hR
      refine va_new C.1 C.2.1 (C.cls hqc) (fun _ z => z) (fun i => am_ft (32 * ci + i)) (fun i hi => (O7 i hi).1) C.2.2.2.1 (C.word (am_wt_mem h3) rfl) (C.word O2 rfl) (C.word O3 rfl) C.K A6 A7 A8 (am_hA C) hqc (fs := am_df ci) (fun j hj => (O7 j hj).2.1) hR.1 hR.2 hd fun q H1 P1 D1 S1 => ?_
      obtain ⟨k1, k2, k3, k4, k5⟩ := key q
      exact G.new k4 k5 ⟨A1.px (am_pn_px _ _ _), A2, ⟨⟨q, k2, rfl⟩, A3.px (am_pn_px _ _ _)⟩, by rw [k3]; exact A4.pn, _, k1, P1, D1, S1⟩
    · cases hro
theorem am_kd (C : am_cx k s0 a0 D J AA p R s m meth c) {ty : FieldType} (ht : ty ∈ am_tl) {cA : ClassId} (h : va_RA s cA ty) : cA = J ty := by
  obtain ⟨t0, h0⟩ := List.getElem?_of_mem ht
  have hk := (C.K.2 t0 (J ty, ty) (by rw [List.getElem?_map, h0]; rfl)).2
  cases ty with
  | object C0 =>
    obtain ⟨kA, comp, -, -, -, g⟩ := h
    obtain ⟨kA', comp', -, -, -, g'⟩ := hk
    exact Option.some.inj (g.symm.trans g')
  | _ => exact Option.some.inj ((show s.vm.findClass _ = some cA from h).symm.trans hk)
theorem am_n0 {n : Int32} (h0 : 0 ≤ n.toInt) : ¬ n < 0 := by
  rw [Int32.lt_iff_toInt_lt]; simp; exact h0
theorem am_ncl {n : Int32} (h0 : 0 ≤ n.toInt) (h1 : n.toInt ≤ 65536) : n.toNatClampNeg ≤ 65536 := by
  have : n.toNatClampNeg = n.toInt.toNat := rfl
  rw [this]; omega
theorem ao_newarray {ty : ArrayType} (C : am_cx k s0 a0 D J AA p R s m meth c) (hok : am_ok k pc (.newarray ty) len = true) (A : am_at s0 D J AA s k P lv st h ls rst H locs) (e1 : am_o1 k (.newarray ty) (pc + len) lv st h = some r) (hR : cells + (r.2.2.2.2.2.2.1 - h.2.2.2.1) ≤ R.cells ∧ slots + (r.2.2.2.2.2.2.2 - h.2.2.2.2) ≤ R.slots) (hwa : (.arrayClass .int : Jvm.Cond) ∈ lw_tbl ∧ (.arrayClass .char : Jvm.Cond) ∈ lw_tbl ∧ (.arrayClass .long : Jvm.Cond) ∈ lw_tbl) (G : am_go s0 D J AA p l e R s m args below meth c k P cells slots h Q r) : W p l e R s m args below meth c H locs cells slots Q (F0 m pc ls rst) := by
  obtain ⟨r0, hd, hro⟩ := am_ok_r hok
  obtain ⟨A1, A2, A3, A4, ws, A5, A6, A7, A8⟩ := A
  change (match (generalizing := false) r0 with | .newarray ty' => Nat.beq len 2 && decide (ty = ty') | _ => false) = true at hro
  change Option.map _ (match (generalizing := false) st with | .int n :: st => cond (decide ((ty = .int ∨ ty = .long ∨ ty = .char) ∧ 0 ≤ n.toInt ∧ n.toInt ≤ 65536)) ((am_new h (am_rg k) (am_na ty n.toNatClampNeg) n.toNatClampNeg).map (fun r => (pc + len, Value.ref r.1 :: st, r.2))) none | _ => none) = some r at e1
  split at hro
  · rename_i ty'
    obtain ⟨h1, h2⟩ := am_b2 hro
    cases Nat.eq_of_beq_eq_true h1
    cases of_decide_eq_true h2
    split at e1
    · rename_i n st
      obtain ⟨w0, r0, rfl, hv0, B0⟩ := am_vs.c1 A3
      cases (show w0 = .int n from hv0)
      by_cases hc : (ty = .int ∨ ty = .long ∨ ty = .char) ∧ 0 ≤ n.toInt ∧ n.toInt ≤ 65536
      · rw [decide_eq_true hc] at e1
        obtain ⟨hty, hn0, hn1⟩ := hc
        have hcl := am_ncl hn0 hn1
        cases hnw : am_new h (am_rg k) (am_na ty n.toNatClampNeg) n.toNatClampNeg with
        | none => rw [hnw] at e1; cases e1
        | some x =>
          obtain ⟨a, h'⟩ := x
          rw [hnw] at e1
          cases e1
          have fin : ∀ (t : FieldType) (x0 : vp_A), am_na ty n.toNatClampNeg = .inr (t, x0) → t ∈ am_tl → newarray.typeOf ty = t → (∀ cA : ClassId, vp_cell cA x0 = arrV cA n.toNatClampNeg (fun _ => defaultValue t)) → am_ar P x0 x0 → (.arrayClass t : Jvm.Cond) ∈ lw_tbl → goodWord (.arrayClass t) = true → componentBytes t ≤ 8 → W p l e R s m args below meth c H locs cells slots Q (F0 m pc ls (.int n :: r0)) := by
            intro t x0 e0 ht hto hce har hw hgw hby
            rw [e0] at hnw
            have key : ∀ q : Nat, am_wr J (am_pn (am_rg k) P q) h' (ws ++ [(q, .inl (J t, x0))]) ∧ am_ad (am_pn (am_rg k) P q) a = some q ∧ h'.1 = h.1 ∧ h'.2.2.2.1 = h.2.2.2.1 + 1 ∧ h'.2.2.2.2 = h.2.2.2.2 + n.toNatClampNeg :=
              fun q => A5.new hnw ⟨ht, _, rfl, har.px (am_pn_px _ _ _)⟩
            have hn := (key 0).2.2.2.1
            have hs := (key 0).2.2.2.2
            simp only [hn, hs, Nat.add_sub_cancel_left] at hR
            subst hto
            refine va_newa C.1 C.2.1 (C.word hw hgw) rfl C.K A6 A7 A8 (am_hA C) hce (am_n0 hn0) rfl (Nat.le_trans (Nat.mul_le_mul hcl hby) (by decide)) hR.1 hR.2 hd fun q cA H1 K1 P1 D1 S1 => ?_
            have hJ : cA = J (newarray.typeOf ty) := am_kd C ht (K1.2 4 _ rfl).2
            subst hJ
            obtain ⟨k1, k2, k3, k4, k5⟩ := key q
            exact G.new k4 k5 ⟨A1.px (am_pn_px _ _ _), A2, ⟨⟨q, k2, rfl⟩, B0.px (am_pn_px _ _ _)⟩, by rw [k3]; exact A4.pn, _, k1, P1, D1, S1⟩
          rcases hty with rfl | rfl | rfl
          · exact fin .int _ rfl (by simp [am_tl]) rfl (fun _ => rfl) ⟨rfl, rfl⟩ hwa.1 rfl (by decide)
          · exact fin .long _ rfl (by simp [am_tl]) rfl (fun _ => rfl) ⟨rfl, rfl⟩ hwa.2.2 rfl (by decide)
          · exact fin .char _ rfl (by simp [am_tl]) rfl (fun _ => rfl) ⟨rfl, rfl⟩ hwa.2.1 rfl (by decide)
      · rw [decide_eq_false hc] at e1
        cases e1
    · cases e1
  · cases hro
end AM6
