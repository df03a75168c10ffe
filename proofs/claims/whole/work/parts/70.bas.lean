/-! WHAT HOLDS AT THE LAW'S START -/
def am_fl0 : List Jvm.Cond := flatC (Jvm.Cond.and given_1 narrow_1)
def am_stt (a : Nat) : Term := .static (am_sp a).1 (am_sp a).2 "[I"
/-- the premises on a static table -/
def am_tck (a n : Nat) (l : List Int32) : Bool := decide (Jvm.Cond.arrayOf (am_stt a) .int ∈ am_fl0) && decide (Jvm.Cond.eq (.length (am_stt a)) (.int (Int32.ofNat n)) ∈ am_fl0) && (List.range n).all (fun j => decide (Jvm.Cond.eq (.elem (am_stt a) (.int (Int32.ofNat j))) (.int (l.getD j 0)) ∈ am_fl0)) && decide (Jvm.Cond.laysStatic (am_sp a).1 (am_sp a).2 "[I" ∈ lw_tbl) && decide (Jvm.Cond.initialized (am_sp a).1 ∈ lw_tbl)
theorem am_tck_1 : am_tck 1 16 tl_FILE_STEP = true := by decide +kernel
theorem am_tck_2 : am_tck 2 16 tl_RANK_STEP = true := by decide +kernel
theorem am_tck_3 : am_tck 3 16 tl_NEAR = true := by decide +kernel
theorem am_tck_4 : am_tck 4 16 tl_FAR = true := by decide +kernel
theorem am_tck_5 : am_tck 5 64 tl_RIGHTS_AT = true := by decide +kernel
theorem am_tck_6 : am_tck 6 8 tl_FIRST_RANK = true := by decide +kernel
section AMB
variable {s : State} {a0 : Array Value}
theorem am_tbl (hts : ∀ w ∈ lw_tbl, w.before a0 s = true) (hgv : (Jvm.Cond.and given_1 narrow_1).before a0 s = true) {a n : Nat} {l : List Int32} (hn : n < 2 ^ 31) (h : am_tck a n l = true) : ∃ q, va_T .int q n (fun j => .int (l.getD j 0)) (am_A s) s s.heap ∧ va_Z (am_sp a).1 (am_sp a).2 "[I" (.ref q) (am_A s) s s.heap := by
  have hf := flat_of_before _ hgv
  unfold am_tck at h
  obtain ⟨h, h5⟩ := am_b2 h
  obtain ⟨h, h4⟩ := am_b2 h
  obtain ⟨h, h3⟩ := am_b2 h
  obtain ⟨h1, h2⟩ := am_b2 h
  have hA : ∀ a : Nat, a < s.heap.size → ¬ am_A s a := fun a ha hz => by unfold am_A at hz; omega
  obtain ⟨q, q1, q2⟩ := va_Tof (A := am_A s) (N := n) (f := fun j => .int (l.getD j 0)) hn (hf _ (of_decide_eq_true h1)) (va_eqt (hf _ (of_decide_eq_true h2))) (fun j hj => va_eqt (hf _ (of_decide_eq_true (List.all_eq_true.mp h3 j (List.mem_range.mpr hj))))) hA
  exact ⟨q, q2, va_Zof (hts _ (of_decide_eq_true h4)) (hts _ (of_decide_eq_true h5)) q1 hA⟩
/-- the premises on a text -/
def am_stx (own : String) (i : Nat) : Term := .string own i
def am_sck (own : String) (i : Nat) (tx : String) (l : List Int32) : Bool := decide (Jvm.Cond.stringRef own i tx ∈ lw_tbl) && decide (Jvm.Cond.exactly (am_stx own i) "java/lang/String" ∈ am_fl0) && decide (Jvm.Cond.eq (.field (am_stx own i) "java/lang/String" "coder" "B") (.int 0) ∈ am_fl0) && decide (Jvm.Cond.arrayOf (.field (am_stx own i) "java/lang/String" "value" "[B") .byte ∈ am_fl0) && decide (Jvm.Cond.eq (.length (.field (am_stx own i) "java/lang/String" "value" "[B")) (.int (Int32.ofNat l.length)) ∈ am_fl0) && (List.range l.length).all (fun j => decide (Jvm.Cond.eq (.elem (.field (am_stx own i) "java/lang/String" "value" "[B") (.int (Int32.ofNat j))) (.int (l.getD j 0)) ∈ am_fl0)) && l.all (fun x => decide (0 ≤ x.toInt ∧ x.toInt < 128))
theorem am_sck_7 : am_sck "MateProblems$Reader" 84 " PNBRQK  pnbrqk" tl_LETTERS = true := by decide +kernel
theorem am_sck_8 : am_sck "MateProblems$Reader" 98 "KQkq" tl_RIGHTS = true := by decide +kernel
theorem am_str (hts : ∀ w ∈ lw_tbl, w.before a0 s = true) (hgv : (Jvm.Cond.and given_1 narrow_1).before a0 s = true) {own tx : String} {i : Nat} {l : List Int32} (hn : l.length < 1000) (h : am_sck own i tx l = true) : ∃ q v : Nat, vk_R own i tx q s ∧ va_O "java/lang/String" q (am_A s) s s.heap ∧ va_OF "java/lang/String" "coder" "B" (.int 0) q (am_A s) s s.heap ∧ va_OF "java/lang/String" "value" "[B" (.ref v) q (am_A s) s s.heap ∧ va_T .byte v l.length (fun j => .int (l.getD j 0)) (am_A s) s s.heap ∧ ∀ j, 0 ≤ (l.getD j 0).toInt ∧ (l.getD j 0).toInt < 128 := by
  have hf := flat_of_before _ hgv
  unfold am_sck at h
  obtain ⟨h, h7⟩ := am_b2 h
  obtain ⟨h, h6⟩ := am_b2 h
  obtain ⟨h, h5⟩ := am_b2 h
  obtain ⟨h, h4⟩ := am_b2 h
  obtain ⟨h, h3⟩ := am_b2 h
  obtain ⟨h1, h2⟩ := am_b2 h
  have hA : ∀ a : Nat, a < s.heap.size → ¬ am_A s a := fun a ha hz => by unfold am_A at hz; omega
  obtain ⟨adK, adV, hS, hev⟩ := vk_Sof (args := a0) (s := s) (N := 1) (tm := fun _ => am_stx own i) (len := [l.length]) (byt := [l]) (A := am_A s) (fun j hj => by cases (show j = 0 by omega); show l.length < _; omega) (fun _ _ => hf _ (of_decide_eq_true h2)) (fun _ _ => hf _ (of_decide_eq_true h3)) (fun _ _ => hf _ (of_decide_eq_true h4)) (fun j hj => by cases (show j = 0 by omega); exact hf _ (of_decide_eq_true h5)) (fun j hj k hk => by cases (show j = 0 by omega); exact hf _ (of_decide_eq_true (List.all_eq_true.mp h6 k (List.mem_range.mpr hk)))) (fun i j hi hj hij => by omega) hA
  obtain ⟨s1, s2, s3, s4⟩ := hS.1 0 (by omega)
  refine ⟨adK 0, adV 0, vk_R.of (A := a0) (hts _ (of_decide_eq_true h1)) ?_, s1, s2, s3, s4, fun j => ?_⟩
  · have := hev 0 (by omega)
    exact this
  · by_cases hj : j < l.length
    · rw [List.getD_eq_getElem?_getD, List.getElem?_eq_getElem hj]
      exact of_decide_eq_true (List.all_eq_true.mp h7 _ (List.getElem_mem hj))
    · rw [List.getD_eq_getElem?_getD, List.getElem?_eq_none (by omega)]
      exact ⟨by decide, by decide⟩
end AMB
/-- the rest of the premises -/
def am_mck : Bool := lw_tbl.all (fun w => match w with
  | .stringRef o i _ => decide (o ≠ "MateProblems") || decide (Jvm.Cond.exactly (.string "MateProblems" i) "java/lang/String" ∈ am_fl0)
  | _ => true) && (List.range 4).all (fun i => (List.range 4).all (fun j => cond (Nat.beq i j) (decide (Jvm.Cond.castable (am_xn i) (am_xn j) ∈ lw_tbl)) (decide (Jvm.Cond.not (.castable (am_xn i) (am_xn j)) ∈ am_fl0))))
theorem am_mck_ok : am_mck = true := by decide +kernel
def am_zck (C n d : String) : Bool := decide (Jvm.Cond.laysStatic C n d ∈ lw_tbl) && decide (Jvm.Cond.initialized C ∈ lw_tbl) && decide (Jvm.Cond.isRef (.static C n d) ∈ am_fl0)
theorem am_zck_1 : am_zck Bundle.tN "UNASSIGNED_STACK" Bundle.steD = true := by decide +kernel
theorem am_zck_2 : am_zck Bundle.tN "SUPPRESSED_SENTINEL" Bundle.listD = true := by decide +kernel
theorem am_zck_3 : am_zck "jdk/internal/util/Preconditions" "SIOOBE_FORMATTER" "Ljava/util/function/BiFunction;" = true := by decide +kernel
theorem am_wcs : Jvm.Cond.laysStatic "java/lang/String" "COMPACT_STRINGS" "Z" ∈ lw_tbl ∧ Jvm.Cond.initialized "java/lang/String" ∈ lw_tbl ∧ Jvm.Cond.eq (.static "java/lang/String" "COMPACT_STRINGS" "Z") (.int 1) ∈ am_fl0 := by decide +kernel
section AMB2
variable {s : State} {a0 : Array Value}
theorem am_stat (hts : ∀ w ∈ lw_tbl, w.before a0 s = true) (hgv : (Jvm.Cond.and given_1 narrow_1).before a0 s = true) {C n d : String} (h : am_zck C n d = true) : ∃ v : Value, v.isRef = true ∧ va_Z C n d v (am_A s) s s.heap := by
  have hf := flat_of_before _ hgv
  unfold am_zck at h
  obtain ⟨h, h3⟩ := am_b2 h
  obtain ⟨h1, h2⟩ := am_b2 h
  have hA : ∀ a : Nat, a < s.heap.size → ¬ am_A s a := fun a ha hz => by unfold am_A at hz; omega
  have h4 := hf _ (of_decide_eq_true h3)
  cases hv : (Term.static C n d).eval a0 s none [] s with
  | none => simp [Jvm.Cond.before, Jvm.Cond.holds, Jvm.Cond.value, hv] at h4
  | some v =>
    refine ⟨v, ?_, va_Zof (hts _ (of_decide_eq_true h1)) (hts _ (of_decide_eq_true h2)) hv hA⟩
    simp only [Jvm.Cond.before, Jvm.Cond.holds, Jvm.Cond.value, hv] at h4
    cases v <;> simp_all [Value.isRef]
theorem am_arr (hts : ∀ w ∈ lw_tbl, w.before a0 s = true) (ty : FieldType) (ht : ty ∈ am_tl) : ∃ cA : ClassId, ArrOfT s cA ty ∧ va_RA s cA ty := by
  have prim : ∀ ty : FieldType, (Jvm.Cond.arrayClass ty).before a0 s = true → ∃ cA : ClassId, ArrOfT s cA ty ∧ s.vm.findClass ("[" ++ ty.toString) = some cA := by
    intro ty h
    simp only [Jvm.Cond.before, Jvm.Cond.holds, Jvm.Cond.value] at h
    cases hc : s.vm.findClass ("[" ++ ty.toString) with
    | none => rw [hc] at h; simp at h
    | some cA =>
      rw [hc] at h
      simp only [Option.bind_some] at h
      cases hk : s.vm.classes[cA]? with
      | none => rw [hk] at h; simp at h
      | some kA =>
        rw [hk] at h
        simp only [Option.map_some] at h
        cases hkk : kA.kind with
        | array comp t =>
          rw [hkk] at h
          have : t = ty := by simpa using h
          subst this
          exact ⟨cA, fun n z => ⟨(fun k h => by cases h), kA, hk, comp, hkk⟩, rfl⟩
        | _ => rw [hkk] at h; simp at h
  simp only [am_tl, List.mem_cons, List.not_mem_nil, or_false] at ht
  rcases ht with rfl | rfl | rfl | rfl
  · obtain ⟨cA, h1, h2⟩ := prim .int (hts _ am_w_ai.1); exact ⟨cA, h1, h2⟩
  · obtain ⟨cA, h1, h2⟩ := prim .char (hts _ am_w_ai.2.1); exact ⟨cA, h1, h2⟩
  · obtain ⟨cA, h1, h2⟩ := prim .long (hts _ am_w_ai.2.2); exact ⟨cA, h1, h2⟩
  · obtain ⟨comp, cA, kA, h1, -, h3, h4, h5⟩ := Cond.arrayOver_spec (hts _ am_w_ao)
    exact ⟨cA, fun n z => ⟨(fun k h => by cases h), kA, h3, comp, h4⟩, kA, comp, h3, h4, h1, h5⟩
theorem am_based (hts : ∀ w ∈ lw_tbl, w.before a0 s = true) (hgv : (Jvm.Cond.and given_1 narrow_1).before a0 s = true) : ∃ (D : va_G) (J : FieldType → ClassId), am_base s a0 D J := by
  have hf := flat_of_before _ hgv
  have hA : ∀ a : Nat, a < s.heap.size → ¬ am_A s a := fun a ha hz => by unfold am_A at hz; omega
  have hcl : ∀ c : Nat, ∃ x : ClassId × (Nat → Nat), ∀ q : vw_C, am_cls[c]? = some q → u_Kn s q.1 q.2.1 q.2.2 x.1 x.2 := by
    intro c
    cases hc : am_cls[c]? with
    | none => exact ⟨(0, fun _ => 0), fun q hq => by cases hq⟩
    | some q =>
      obtain ⟨nm, T, N⟩ := q
      have O := am_clc_ok hc
      obtain ⟨cC, iS, h⟩ := u_known hts (fun w hw => (O.1 w hw).1) (hts _ O.2.1)
      exact ⟨(cC, iS), fun q hq => by cases hq; exact h⟩
  obtain ⟨X, hX⟩ := Classical.axiomOfChoice hcl
  have har : ∀ ty : FieldType, ∃ cA : ClassId, ty ∈ am_tl → ArrOfT s cA ty ∧ va_RA s cA ty := by
    intro ty
    by_cases ht : ty ∈ am_tl
    · obtain ⟨cA, h⟩ := am_arr hts ty ht
      exact ⟨cA, fun _ => h⟩
    · exact ⟨0, fun h => absurd h ht⟩
  obtain ⟨J, hJ⟩ := Classical.axiomOfChoice har
  have hm := am_mck_ok
  unfold am_mck at hm
  obtain ⟨hm1, hm2⟩ := am_b2 hm
  refine ⟨(fun c => (X c).1, fun c => (X c).2), J, hts, ⟨fun c q hq => hX c q hq, fun k q hq => ?_⟩, fun i tx hw => ?_, fun i j hi hj => ?_, am_stat hts hgv am_zck_1, am_stat hts hgv am_zck_2, va_Zof (hts _ am_wcs.1) (hts _ am_wcs.2.1) (va_eqi (hf _ am_wcs.2.2)) hA, am_stat hts hgv am_zck_3⟩
  · rw [List.getElem?_map] at hq
    cases ht : am_tl[k]? with
    | none => rw [ht] at hq; cases hq
    | some ty =>
      rw [ht] at hq
      cases hq
      exact hJ ty (List.mem_of_getElem? ht)
  · have h1 := List.all_eq_true.mp hm1 _ hw
    simp only [ne_eq, not_true_eq_false, decide_false, Bool.false_or, decide_eq_true_eq] at h1
    obtain ⟨a, c, cell, k, q1, -⟩ := Cond.exactly_spec (args := a0) (first := s) (o := none) (s := s) (idx := []) (hf _ h1)
    exact ⟨a, vk_R.of (A := a0) (hts _ hw) q1⟩
  · have h1 := List.all_eq_true.mp (List.all_eq_true.mp hm2 i (List.mem_range.mpr hi)) j (List.mem_range.mpr hj)
    by_cases hij : i = j
    · subst hij
      rw [Nat.beq_refl, cond_true] at h1
      have h3 := of_decide_eq_true h1
      obtain ⟨c, t, g1, g2, g3⟩ := Cond.castable_spec (hts _ h3)
      exact ⟨c, t, g1, g2, by rw [g3]; simp⟩
    · rw [show Nat.beq i j = false from by
        cases hb : Nat.beq i j with
        | false => rfl
        | true => exact absurd (Nat.eq_of_beq_eq_true hb) hij, cond_false] at h1
      have hv := Cond.holds_not_iff.mp (hf _ (of_decide_eq_true h1))
      simp only [Jvm.Cond.value] at hv
      cases hc : s.vm.findClass (am_xn i) with
      | none => rw [hc] at hv; simp at hv
      | some c =>
        cases ht : s.vm.findClass (am_xn j) with
        | none => rw [hc, ht] at hv; simp at hv
        | some t =>
          rw [hc, ht] at hv
          exact ⟨c, t, rfl, rfl, by rw [Option.some.inj hv]; exact (decide_eq_false hij).symm⟩
theorem am_zed (hts : ∀ w ∈ lw_tbl, w.before a0 s = true) (hgv : (Jvm.Cond.and given_1 narrow_1).before a0 s = true) {b L : Nat} {xs : Nat → Int32} (hX : va_X b L xs s s.heap) (hb : b < s.heap.size) : ∃ P : am_P, am_z0 s P (zl L xs) ∧ P.2.1 = [] ∧ P.2.2 = [] ∧ P.1[0]? = some b := by
  obtain ⟨q1, t1, z1⟩ := am_tbl hts hgv (by decide) am_tck_1
  obtain ⟨q2, t2, z2⟩ := am_tbl hts hgv (by decide) am_tck_2
  obtain ⟨q3, t3, z3⟩ := am_tbl hts hgv (by decide) am_tck_3
  obtain ⟨q4, t4, z4⟩ := am_tbl hts hgv (by decide) am_tck_4
  obtain ⟨q5, t5, z5⟩ := am_tbl hts hgv (by decide) am_tck_5
  obtain ⟨q6, t6, z6⟩ := am_tbl hts hgv (by decide) am_tck_6
  obtain ⟨q7, v7, r7, o7, c7, w7, t7, b7⟩ := am_str hts hgv (by decide) am_sck_7
  obtain ⟨q8, v8, r8, o8, c8, w8, t8, b8⟩ := am_str hts hgv (by decide) am_sck_8
  have t0 : va_T .int b L (fun j => .int (xs j)) (am_A s) s s.heap := by
    obtain ⟨scr, h1, h2, h3, h4, h5⟩ := hX
    exact ⟨scr, h1, h2, h3, by omega, by rw [h4], h5, fun hz => by unfold am_A at hz; omega⟩
  refine ⟨([b, q1, q2, q3, q4, q5, q6, q7, q8], [], []), ⟨fun a c hc ha => ?_, fun a h1 h2 => ?_, q7, q8, rfl, rfl, r7, r8⟩, rfl, rfl, rfl⟩
  · match a, hc with
    | 0, hc => cases hc; exact ⟨b, rfl, t0⟩
    | 1, hc => cases hc; exact ⟨q1, rfl, t1⟩
    | 2, hc => cases hc; exact ⟨q2, rfl, t2⟩
    | 3, hc => cases hc; exact ⟨q3, rfl, t3⟩
    | 4, hc => cases hc; exact ⟨q4, rfl, t4⟩
    | 5, hc => cases hc; exact ⟨q5, rfl, t5⟩
    | 6, hc => cases hc; exact ⟨q6, rfl, t6⟩
    | 7, hc => cases hc; exact ⟨q7, rfl, v7, by decide, o7, c7, w7, t7, b7⟩
    | 8, hc => cases hc; exact ⟨q8, rfl, v8, by decide, o8, c8, w8, t8, b8⟩
    | n + 9, hc => exact nomatch (show (none : Option am_C) = some c from by rw [am_nth_eq] at hc; simpa [zl] using hc)
  · match a, h1, h2 with
    | 1, _, _ => exact ⟨q1, rfl, z1⟩
    | 2, _, _ => exact ⟨q2, rfl, z2⟩
    | 3, _, _ => exact ⟨q3, rfl, z3⟩
    | 4, _, _ => exact ⟨q4, rfl, z4⟩
    | 5, _, _ => exact ⟨q5, rfl, z5⟩
    | 6, _, _ => exact ⟨q6, rfl, z6⟩
end AMB2
