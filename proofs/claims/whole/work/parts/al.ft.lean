/-! FAULTS OF A POSITION, on both sides -/
def cN (m : Nat → Int32) (v : Int32) : Nat → Nat
  | 0 => 0
  | n + 1 => cN m v n + (if m n = v then 1 else 0)
theorem cN_le (m : Nat → Int32) (v : Int32) : ∀ n, cN m v n ≤ n
  | 0 => Nat.le_refl _
  | n + 1 => by
    have := cN_le m v n
    unfold cN
    split <;> omega
theorem cN_pos {m : Nat → Int32} {v : Int32} {a : Nat} (h : m a = v) : ∀ n, a < n → 1 ≤ cN m v n
  | 0, h' => by omega
  | n + 1, h' => by
    unfold cN
    by_cases e : a = n
    · rw [if_pos (by rw [← e]; exact h)]; omega
    · have := cN_pos h n (by omega); omega
theorem cN_u {m : Nat → Int32} {v : Int32} {a b : Nat} (ha : m a = v) (hb : m b = v) : ∀ n, cN m v n ≤ 1 → a < n → b < n → a = b
  | 0, _, h, _ => by omega
  | n + 1, hc, h1, h2 => by
    unfold cN at hc
    by_cases ea : a = n
    · by_cases eb : b = n
      · omega
      · rw [if_pos (by rw [← ea]; exact ha)] at hc
        have := cN_pos hb n (by omega)
        omega
    · by_cases eb : b = n
      · rw [if_pos (by rw [← eb]; exact hb)] at hc
        have := cN_pos ha n (by omega)
        omega
      · exact cN_u ha hb n (by omega) (by omega) (by omega)
theorem r_count (fu : Nat) (Q : PoT) (v : Int32) : ∀ (r m i : Nat), i + r = 64 → r < m → l_M_countOf_4 fu Q v m (nI (cN (po_men Q) v i)) (nI i) = some (nI (cN (po_men Q) v 64)) := by
  intro r
  induction r with
  | zero =>
    intro m i hi hm
    obtain ⟨m, rfl⟩ : ∃ x, m = x + 1 := ⟨m - 1, by omega⟩
    show b_M_countOf_4 fu Q v _ _ (nI i) = _
    unfold b_M_countOf_4
    rw [if_pos (show (64 : Int32) ≤ nI i from nI_le (a := 64) (by omega) (by omega)), show i = 64 by omega]
  | succ r ih =>
    intro m i hi hm
    obtain ⟨m, rfl⟩ : ∃ x, m = x + 1 := ⟨m - 1, by omega⟩
    show b_M_countOf_4 fu Q v (l_M_countOf_4 fu Q v m) _ (nI i) = _
    unfold b_M_countOf_4 j_M_countOf_27
    rw [if_neg (show ¬ (64 : Int32) ≤ nI i from nI_ge (b := 64) (by omega) (by decide)), if_pos (pu_in (show i < 64 by omega) (by decide)), nI_clamp (by omega), nI_1, nI_1]
    have := ih m (i + 1) (by omega) (by omega)
    by_cases h : po_men Q i = v
    · rw [if_neg (fun q => q h)]
      rw [show cN (po_men Q) v (i + 1) = cN (po_men Q) v i + 1 from by show cN _ _ _ + (if _ then 1 else 0) = _; rw [if_pos h]] at this
      exact this
    · rw [if_pos h]
      rw [show cN (po_men Q) v (i + 1) = cN (po_men Q) v i from by show cN _ _ _ + (if _ then 1 else 0) = _; rw [if_neg h]; rfl] at this
      exact this
theorem r_countOf (fu : Nat) (hfu : 64 < fu) (Q : PoT) (v : Int32) : f_M_countOf fu v Q = some (nI (cN (po_men Q) v 64)) := r_count fu Q v 64 fu 0 (by omega) (by omega)
theorem c_k6 (fu : Nat) : ∀ (r m i : Nat) (D : BdT), i + r = 64 → r < m → (¬ cN (bd_men D) 6 i = 0 → ∃ k, k < i ∧ bd_kings D 0 = nI k ∧ bd_men D k = 6) → (¬ cN (bd_men D) 14 i = 0 → ∃ k, k < i ∧ bd_kings D 1 = nI k ∧ bd_men D k = 14) → ∃ D', l_Reader_hasTwoKings_6 fu m (nI (cN (bd_men D) 6 i)) (nI (cN (bd_men D) 14 i)) (nI i) D = some (nI (cN (bd_men D) 6 64), nI (cN (bd_men D) 14 64), D') ∧ dms D D' ∧ bd_side D' = bd_side D ∧ bd_rights D' = bd_rights D ∧ bd_passed D' = bd_passed D ∧ (¬ cN (bd_men D) 6 64 = 0 → ∃ k, k < 64 ∧ bd_kings D' 0 = nI k ∧ bd_men D k = 6) ∧ (¬ cN (bd_men D) 14 64 = 0 → ∃ k, k < 64 ∧ bd_kings D' 1 = nI k ∧ bd_men D k = 14) := by
  intro r
  induction r with
  | zero =>
    intro m i D hi hm h0 h1
    obtain ⟨m, rfl⟩ : ∃ x, m = x + 1 := ⟨m - 1, by omega⟩
    have : i = 64 := by omega
    subst this
    refine ⟨D, ?_, ⟨rfl, rfl⟩, rfl, rfl, rfl, h0, h1⟩
    show b_Reader_hasTwoKings_6 fu _ _ _ (nI 64) D = _
    unfold b_Reader_hasTwoKings_6
    rw [if_pos (by decide)]
  | succ r ih =>
    intro m i D hi hm h0 h1
    obtain ⟨m, rfl⟩ : ∃ x, m = x + 1 := ⟨m - 1, by omega⟩
    show ∃ D', b_Reader_hasTwoKings_6 fu (l_Reader_hasTwoKings_6 fu m) _ _ (nI i) D = _ ∧ _
    have hi64 : am_in (nI i) 64 = true := pu_in (by omega) (by decide)
    unfold b_Reader_hasTwoKings_6 j_Reader_hasTwoKings_69
    rw [if_neg (show ¬ (64 : Int32) ≤ nI i from nI_ge (b := 64) (by omega) (by decide)), if_pos hi64, if_pos hi64, nI_clamp (by omega), nI_1, nI_1, nI_1]
    have s6 : cN (bd_men D) 6 (i + 1) = cN (bd_men D) 6 i + (if bd_men D i = 6 then 1 else 0) := rfl
    have s14 : cN (bd_men D) 14 (i + 1) = cN (bd_men D) 14 i + (if bd_men D i = 14 then 1 else 0) := rfl
    by_cases h6 : bd_men D i = 6
    · have hn : ¬ bd_men D i = 14 := by rw [h6]; decide
      rw [if_neg (fun q => q h6), if_pos (by decide)]
      rw [if_pos h6] at s6
      rw [if_neg hn] at s14
      obtain ⟨D', e⟩ := ih m (i + 1) (bd_men D, bd_held D, upd (bd_kings D) 0 (nI i), bd_side D, bd_rights D, bd_passed D, bd_depth D, bd_made D, bd_taken D, bd_takenAt D, bd_rightsBefore D, bd_passedBefore D) (by omega) (by omega) (fun _ => ⟨i, by omega, by show upd (bd_kings D) 0 (nI i) 0 = _; exact upd_s _ _ _, h6⟩) (fun q => by
        have q' : ¬ cN (bd_men D) 14 i = 0 := by
          intro w; apply q; show cN (bd_men D) 14 (i + 1) = 0; rw [s14, w]
        obtain ⟨k, k1, k2, k3⟩ := h1 q'
        exact ⟨k, by omega, by show upd (bd_kings D) 0 (nI i) 1 = _; rw [upd_o _ _ (by decide)]; exact k2, k3⟩)
      refine ⟨D', ?_⟩
      rw [← s6]
      rw [show cN (bd_men D) 14 i = cN (bd_men D) 14 (i + 1) from by rw [s14]; rfl]
      exact e
    · rw [if_pos h6]
      rw [if_neg h6] at s6
      by_cases h14 : bd_men D i = 14
      · rw [if_neg (fun q => q h14), if_pos (by decide)]
        rw [if_pos h14] at s14
        obtain ⟨D', e⟩ := ih m (i + 1) (bd_men D, bd_held D, upd (bd_kings D) 1 (nI i), bd_side D, bd_rights D, bd_passed D, bd_depth D, bd_made D, bd_taken D, bd_takenAt D, bd_rightsBefore D, bd_passedBefore D) (by omega) (by omega) (fun q => by
          have q' : ¬ cN (bd_men D) 6 i = 0 := by
            intro w; apply q; show cN (bd_men D) 6 (i + 1) = 0; rw [s6, w]
          obtain ⟨k, k1, k2, k3⟩ := h0 q'
          exact ⟨k, by omega, by show upd (bd_kings D) 1 (nI i) 0 = _; rw [upd_o _ _ (by decide)]; exact k2, k3⟩) (fun _ => ⟨i, by omega, by show upd (bd_kings D) 1 (nI i) 1 = _; exact upd_s _ _ _, h14⟩)
        refine ⟨D', ?_⟩
        rw [← s14]
        rw [show cN (bd_men D) 6 i = cN (bd_men D) 6 (i + 1) from by rw [s6]; rfl]
        exact e
      · rw [if_pos h14]
        rw [if_neg h14] at s14
        obtain ⟨D', e⟩ := ih m (i + 1) D (by omega) (by omega) (fun q => by
          have q' : ¬ cN (bd_men D) 6 i = 0 := by
            intro w; apply q; rw [s6, w]
          obtain ⟨k, k1, k2, k3⟩ := h0 q'
          exact ⟨k, by omega, k2, k3⟩) (fun q => by
          have q' : ¬ cN (bd_men D) 14 i = 0 := by
            intro w; apply q; rw [s14, w]
          obtain ⟨k, k1, k2, k3⟩ := h1 q'
          exact ⟨k, by omega, k2, k3⟩)
        refine ⟨D', ?_⟩
        rw [show cN (bd_men D) 14 i = cN (bd_men D) 14 (i + 1) from by rw [s14]; rfl]
        rw [show cN (bd_men D) 6 i = cN (bd_men D) 6 (i + 1) from by rw [s6]; rfl]
        exact e
def tk (m : Nat → Int32) : Bool := decide (cN m 6 64 = 1) && decide (cN m 14 64 = 1)
theorem c_kings (fu : Nat) (hfu : 64 < fu) (D : BdT) : ∃ D', f_Reader_hasTwoKings fu D = some (cond (tk (bd_men D)) 1 0, D') ∧ dms D D' ∧ bd_side D' = bd_side D ∧ bd_rights D' = bd_rights D ∧ bd_passed D' = bd_passed D ∧ (tk (bd_men D) = true → KB (bd_kings D') (bd_men D)) := by
  obtain ⟨D', e1, e2, e3, e4, e5, e6, e7⟩ := c_k6 fu 64 fu 0 D (by omega) (by omega) (fun q => absurd rfl q) (fun q => absurd rfl q)
  unfold f_Reader_hasTwoKings j_Reader_hasTwoKings_75 tk
  rw [show l_Reader_hasTwoKings_6 fu fu (0 : Int32) (0 : Int32) (0 : Int32) D = _ from e1]
  simp only [Option.bind_some]
  have l6 := cN_le (bd_men D) 6 64
  have l14 := cN_le (bd_men D) 14 64
  by_cases h6 : cN (bd_men D) 6 64 = 1
  · rw [if_neg (fun q => q (by rw [h6]; rfl)), decide_eq_true h6, Bool.true_and]
    by_cases h14 : cN (bd_men D) 14 64 = 1
    · rw [if_neg (fun q => q (by rw [h14]; rfl)), decide_eq_true h14]
      refine ⟨D', rfl, e2, e3, e4, e5, fun _ d hd => ?_⟩
      rcases (show d = 0 ∨ d = 1 by omega) with rfl | rfl
      · obtain ⟨k, k1, k2, k3⟩ := e6 (by omega)
        exact ⟨k, ⟨k1, k3, fun t ht h => cN_u (v := 6) h k3 64 (by omega) ht k1⟩, k2⟩
      · obtain ⟨k, k1, k2, k3⟩ := e7 (by omega)
        exact ⟨k, ⟨k1, k3, fun t ht h => cN_u (v := 14) h k3 64 (by omega) ht k1⟩, k2⟩
    · rw [if_pos (show ¬ nI (cN (bd_men D) 14 64) = (1 : Int32) from fun q => h14 ((nI_eq (b := 1) (by omega) (by decide)).mp q)), decide_eq_false h14]
      exact ⟨D', rfl, e2, e3, e4, e5, fun q => by cases q⟩
  · rw [if_pos (show ¬ nI (cN (bd_men D) 6 64) = (1 : Int32) from fun q => h6 ((nI_eq (b := 1) (by omega) (by decide)).mp q)), decide_eq_false h6]
    exact ⟨D', rfl, e2, e3, e4, e5, fun q => by cases q⟩
/-! pawns at the ends -/
def pe1 (m : Nat → Int32) (f : Nat) : Bool := decide (m f &&& 7 = 1) || decide (m (f + 56) &&& 7 = 1)
def pe (m : Nat → Int32) : Bool := (List.range' 0 8).any (pe1 m)
theorem c_pe (fu : Nat) (D : BdT) : ∀ (r m i : Nat), i + r = 8 → r < m → l_Reader_hasPawnAtEnd_2 fu D m (nI i) = some (cond ((List.range' i r).any (pe1 (bd_men D))) 1 0) := by
  intro r
  induction r with
  | zero =>
    intro m i hi hm
    obtain ⟨m, rfl⟩ : ∃ x, m = x + 1 := ⟨m - 1, by omega⟩
    show b_Reader_hasPawnAtEnd_2 fu D _ (nI i) = _
    unfold b_Reader_hasPawnAtEnd_2
    rw [if_pos (show (8 : Int32) ≤ nI i from nI_le (a := 8) (by omega) (by omega))]
    rfl
  | succ r ih =>
    intro m i hi hm
    obtain ⟨m, rfl⟩ : ∃ x, m = x + 1 := ⟨m - 1, by omega⟩
    show b_Reader_hasPawnAtEnd_2 fu D (l_Reader_hasPawnAtEnd_2 fu D m) (nI i) = _
    unfold b_Reader_hasPawnAtEnd_2
    rw [if_neg (show ¬ (8 : Int32) ≤ nI i from nI_ge (b := 8) (by omega) (by decide)), if_pos (pu_in (show i < 64 by omega) (by decide)), nI_clamp (by omega), show nI i + (56 : Int32) = nI (i + 56) from nI_add i 56, if_pos (pu_in (show i + 56 < 64 by omega) (by decide)), nI_clamp (show i + 56 < _ by omega), nI_1, ih m (i + 1) (by omega) (by omega), List.range'_succ, List.any_cons]
    unfold pe1
    by_cases h1 : bd_men D i &&& 7 = 1
    · rw [if_pos h1, decide_eq_true h1]; rfl
    · rw [if_neg h1, decide_eq_false h1]
      by_cases h2 : bd_men D (i + 56) &&& 7 = 1
      · rw [if_neg (fun q => q h2), decide_eq_true h2]; rfl
      · rw [if_pos h2, decide_eq_false h2]; rfl
theorem r_pe (fu : Nat) (Q : PoT) : ∀ (r m i : Nat) (b : Bool), i + r = 8 → r < m → l_M_hasPawnAtEnd_4 fu Q m (cond b 1 0) (nI i) = some (cond (b || (List.range' i r).any (pe1 (po_men Q))) 1 0) := by
  intro r
  induction r with
  | zero =>
    intro m i b hi hm
    obtain ⟨m, rfl⟩ : ∃ x, m = x + 1 := ⟨m - 1, by omega⟩
    show b_M_hasPawnAtEnd_4 fu Q _ (cond b 1 0) (nI i) = _
    unfold b_M_hasPawnAtEnd_4
    rw [if_pos (show (8 : Int32) ≤ nI i from nI_le (a := 8) (by omega) (by omega)), pu_nar]
    simp
  | succ r ih =>
    intro m i b hi hm
    obtain ⟨m, rfl⟩ : ∃ x, m = x + 1 := ⟨m - 1, by omega⟩
    show b_M_hasPawnAtEnd_4 fu Q (l_M_hasPawnAtEnd_4 fu Q m) (cond b 1 0) (nI i) = _
    unfold b_M_hasPawnAtEnd_4 j_M_hasPawnAtEnd_43 j_M_hasPawnAtEnd_48 f_M_kind
    rw [if_neg (show ¬ (8 : Int32) ≤ nI i from nI_ge (b := 8) (by omega) (by decide)), if_pos (pu_in (show i < 64 by omega) (by decide)), nI_clamp (by omega), show (56 : Int32) + nI i = nI (i + 56) from by rw [Int32.add_comm]; exact nI_add i 56, if_pos (pu_in (show i + 56 < 64 by omega) (by decide)), nI_clamp (show i + 56 < _ by omega), nI_1, List.range'_succ, List.any_cons]
    simp only [Option.bind_some]
    have t := ih m (i + 1) true (by omega) (by omega)
    have f := ih m (i + 1) false (by omega) (by omega)
    cases b with
    | true => rw [if_pos (by decide)]; exact t
    | false =>
      rw [if_neg (by decide)]
      unfold pe1
      by_cases h1 : po_men Q i &&& 7 = 1
      · rw [if_pos h1, decide_eq_true h1]; exact t
      · rw [if_neg h1, decide_eq_false h1]
        by_cases h2 : po_men Q (i + 56) &&& 7 = 1
        · rw [if_neg (fun q => q h2), decide_eq_true h2]; exact t
        · rw [if_pos h2, decide_eq_false h2]; exact f
theorem pe_cg {m q : Nat → Int32} (h : ∀ x, x < 64 → q x = m x) : pe q = pe m := by
  unfold pe
  rw [Bool.eq_iff_iff, List.any_eq_true, List.any_eq_true]
  have : ∀ f, f ∈ List.range' 0 8 → pe1 q f = pe1 m f := fun f hf => by
    have := (List.mem_range'_1.mp hf).2
    unfold pe1
    rw [h f (by omega), h (f + 56) (by omega)]
  exact ⟨fun ⟨f, h1, h2⟩ => ⟨f, h1, by rw [← this f h1]; exact h2⟩, fun ⟨f, h1, h2⟩ => ⟨f, h1, by rw [this f h1]; exact h2⟩⟩
theorem pe_no {m : Nat → Int32} (h : pe m = false) : ∀ s, s < 64 → m s &&& 7 = 1 → 8 ≤ s ∧ s < 56 := by
  intro s hs h1
  apply Classical.byContradiction
  intro q
  have : pe m = true := by
    rcases (show s < 8 ∨ 56 ≤ s by omega) with w | w
    · exact List.any_eq_true.mpr ⟨s, List.mem_range'_1.mpr ⟨by omega, by omega⟩, by unfold pe1; rw [decide_eq_true h1]; rfl⟩
    · refine List.any_eq_true.mpr ⟨s - 56, List.mem_range'_1.mpr ⟨by omega, by omega⟩, ?_⟩
      unfold pe1
      rw [show s - 56 + 56 = s by omega, decide_eq_true h1, Bool.or_true]
  rw [h] at this
  cases this
/-! rights -/
def rth (m : Nat → Int32) (k : Nat) : Bool := decide (m (56 * (k / 2) + 4) = 6 + 8 * nI (k / 2)) && decide (m (56 * (k / 2) + (if k % 2 = 0 then 7 else 0)) = 4 + 8 * nI (k / 2))
def rwr (m : Nat → Int32) (ρ k : Nat) : Bool := ρ.testBit k && !rth m k
def rbd (m : Nat → Int32) (ρ : Nat) : Bool := rwr m ρ 0 || (rwr m ρ 1 || (rwr m ρ 2 || rwr m ρ 3))
theorem gm_fin : ∀ ρ : Fin 16, ∀ a b c d : Bool, ((nI ρ &&& (nI ((cond a 1 0) ||| (cond b 2 0) ||| (cond c 4 0) ||| (cond d 8 0)) ^^^ (-1 : Int32))) = 0) ↔ ((ρ.val.testBit 0 && !a) || ((ρ.val.testBit 1 && !b) || ((ρ.val.testBit 2 && !c) || (ρ.val.testBit 3 && !d)))) = false := by decide +kernel
theorem c_rgt (D : BdT) (ρ : Nat) (hρ : ρ < 16) (hr : bd_rights D = nI ρ) : f_Reader_hasGoodRights D = some (cond (rbd (bd_men D) ρ) 0 1) := by
  have h114 : ∀ a b c d : Bool, a = rth (bd_men D) 0 → b = rth (bd_men D) 1 → c = rth (bd_men D) 2 → d = rth (bd_men D) 3 → j_Reader_hasGoodRights_114 D (nI ((cond a 1 0) ||| (cond b 2 0) ||| (cond c 4 0) ||| (cond d 8 0))) = some (cond (rbd (bd_men D) ρ) 0 1) := by
    intro a b c d ha hb hc hd
    have g := gm_fin ⟨ρ, hρ⟩ a b c d
    simp only at g
    unfold j_Reader_hasGoodRights_114 rbd rwr
    rw [hr, ← ha, ← hb, ← hc, ← hd]
    cases hx : ((ρ.testBit 0 && !a) || ((ρ.testBit 1 && !b) || ((ρ.testBit 2 && !c) || (ρ.testBit 3 && !d)))) with
    | false => rw [if_neg (fun q => q (g.mpr hx))]; rfl
    | true => rw [if_pos (fun q => by rw [g.mp q] at hx; cases hx)]; rfl
  have s94 : ∀ (bk : Bool) (x4 : Int32), bk = decide (bd_men D 60 = 14) → j_Reader_hasGoodRights_94 D (cond bk 1 0) x4 = j_Reader_hasGoodRights_114 D (cond (rth (bd_men D) 3) (x4 ||| 8) x4) := by
    intro bk x4 hb
    unfold j_Reader_hasGoodRights_94
    rw [show rth (bd_men D) 3 = (decide (bd_men D 60 = 14) && decide (bd_men D 56 = 12)) from rfl, ← hb, show ((56 : Int32)).toNatClampNeg = 56 from by decide]
    cases bk with
    | false => rw [if_pos (by decide)]; rfl
    | true =>
      rw [if_neg (by decide), if_pos (by decide)]
      by_cases h : bd_men D 56 = 12
      · rw [if_neg (fun q => q h), decide_eq_true h]; rfl
      · rw [if_pos h, decide_eq_false h]; rfl
  have s75 : ∀ (bk : Bool) (x4 : Int32), bk = decide (bd_men D 60 = 14) → j_Reader_hasGoodRights_75 D (cond bk 1 0) x4 = j_Reader_hasGoodRights_94 D (cond bk 1 0) (cond (rth (bd_men D) 2) (x4 ||| 4) x4) := by
    intro bk x4 hb
    unfold j_Reader_hasGoodRights_75
    rw [show rth (bd_men D) 2 = (decide (bd_men D 60 = 14) && decide (bd_men D 63 = 12)) from rfl, ← hb, show ((63 : Int32)).toNatClampNeg = 63 from by decide]
    cases bk with
    | false => rw [if_pos (by decide)]; rfl
    | true =>
      rw [if_neg (by decide), if_pos (by decide)]
      by_cases h : bd_men D 63 = 12
      · rw [if_neg (fun q => q h), decide_eq_true h]; rfl
      · rw [if_pos h, decide_eq_false h]; rfl
  have s58 : ∀ (wk : Bool) (x3 x4 : Int32), wk = decide (bd_men D 4 = 6) → j_Reader_hasGoodRights_58 D (cond wk 1 0) x3 x4 = j_Reader_hasGoodRights_75 D x3 (cond (rth (bd_men D) 1) (x4 ||| 2) x4) := by
    intro wk x3 x4 hb
    unfold j_Reader_hasGoodRights_58
    rw [show rth (bd_men D) 1 = (decide (bd_men D 4 = 6) && decide (bd_men D 0 = 4)) from rfl, ← hb, show ((0 : Int32)).toNatClampNeg = 0 from by decide]
    cases wk with
    | false => rw [if_pos (by decide)]; rfl
    | true =>
      rw [if_neg (by decide), if_pos (by decide)]
      by_cases h : bd_men D 0 = 4
      · rw [if_neg (fun q => q h), decide_eq_true h]; rfl
      · rw [if_pos h, decide_eq_false h]; rfl
  have s36 : ∀ (wk : Bool) (x3 : Int32), wk = decide (bd_men D 4 = 6) → j_Reader_hasGoodRights_36 D (cond wk 1 0) x3 = j_Reader_hasGoodRights_58 D (cond wk 1 0) x3 (cond (rth (bd_men D) 0) 1 0) := by
    intro wk x3 hb
    unfold j_Reader_hasGoodRights_36
    rw [show rth (bd_men D) 0 = (decide (bd_men D 4 = 6) && decide (bd_men D 7 = 4)) from rfl, ← hb, show ((7 : Int32)).toNatClampNeg = 7 from by decide]
    cases wk with
    | false => rw [if_pos (by decide)]; rfl
    | true =>
      rw [if_neg (by decide), if_pos (by decide)]
      by_cases h : bd_men D 7 = 4
      · rw [if_neg (fun q => q h), decide_eq_true h]; rfl
      · rw [if_pos h, decide_eq_false h]; rfl
  have s21 : ∀ (wk : Bool), wk = decide (bd_men D 4 = 6) → j_Reader_hasGoodRights_21 D (cond wk 1 0) = some (cond (rbd (bd_men D) ρ) 0 1) := by
    intro wk hwk
    have go : ∀ bk : Bool, bk = decide (bd_men D 60 = 14) → j_Reader_hasGoodRights_36 D (cond wk 1 0) (cond bk 1 0) = some (cond (rbd (bd_men D) ρ) 0 1) := by
      intro bk hbk
      rw [s36 wk _ hwk, s58 wk _ _ hwk, s75 bk _ hbk, s94 bk _ hbk]
      have := h114 _ _ _ _ rfl rfl rfl rfl
      rw [← this]
      generalize rth (bd_men D) 0 = a, rth (bd_men D) 1 = b, rth (bd_men D) 2 = c, rth (bd_men D) 3 = d
      have hf : ∀ a b c d : Bool, (cond d ((cond c ((cond b ((cond a 1 0 : Int32) ||| 2) (cond a 1 0)) ||| 4) (cond b ((cond a 1 0) ||| 2) (cond a 1 0))) ||| 8) (cond c ((cond b ((cond a 1 0) ||| 2) (cond a 1 0)) ||| 4) (cond b ((cond a 1 0) ||| 2) (cond a 1 0)))) = nI ((cond a 1 0) ||| (cond b 2 0) ||| (cond c 4 0) ||| (cond d 8 0)) := by decide +kernel
      rw [hf a b c d]
    unfold j_Reader_hasGoodRights_21
    rw [if_pos (by decide), show ((60 : Int32)).toNatClampNeg = 60 from by decide]
    by_cases h : bd_men D 60 = 14
    · rw [if_neg (fun q => q h)]; exact go true (by rw [decide_eq_true h])
    · rw [if_pos h]; exact go false (by rw [decide_eq_false h])
  unfold f_Reader_hasGoodRights
  rw [if_pos (by decide), show ((4 : Int32)).toNatClampNeg = 4 from by decide]
  by_cases h : bd_men D 4 = 6
  · rw [if_neg (fun q => q h)]; exact s21 true (by rw [decide_eq_true h])
  · rw [if_pos h]; exact s21 false (by rw [decide_eq_false h])
theorem rbt_fin : ∀ ρ : Fin 16, ∀ k : Fin 4, ((nI ρ >>> (nI k &&& 31)) &&& 1 = 1) ↔ ρ.val.testBit k.val = true := by decide +kernel
theorem r_rw1 (fu : Nat) (Q : PoT) (ρ : Nat) (hρ : ρ < 16) (hr : po_rights Q = nI ρ) (gg : Int32 → Int32 → Option Int32) (w : Bool) (k : Nat) (hk : k < 4) : b_M_isRightWrong_4 fu Q gg (cond w 1 0) (nI k) = gg (cond (w || rwr (po_men Q) ρ k) 1 0) (nI (k + 1)) := by
  have hb := rbt_fin ⟨ρ, hρ⟩ ⟨k, hk⟩
  simp only at hb
  have h78 : ∀ th : Bool, th = rth (po_men Q) k → j_M_isRightWrong_78 fu gg Q (cond w 1 0) (nI k) (cond th 1 0) = gg (cond (w || rwr (po_men Q) ρ k) 1 0) (nI (k + 1)) := by
    intro th hth
    unfold j_M_isRightWrong_78 j_M_isRightWrong_101 j_M_isRightWrong_105 j_M_isRightWrong_106 rwr
    rw [nI_1, hr, ← hth]
    cases w with
    | true => rw [if_pos (by decide)]; rfl
    | false =>
      rw [if_neg (by decide)]
      cases hbt : ρ.testBit k with
      | false => rw [if_pos (fun q => by rw [hb.mp q] at hbt; cases hbt)]; rfl
      | true =>
        rw [if_neg (fun q => q (hb.mpr hbt))]
        cases th with
        | true => rw [if_pos (by decide)]; rfl
        | false => rw [if_neg (by decide)]; rfl
  have h37 : ∀ (x3 x4 s0 s1 : Int32) (a b : Nat), a < 64 → b < 64 → x4 = nI a → s0 + s1 = nI b → rth (po_men Q) k = (decide (po_men Q a = 6 + 8 * x3) && decide (po_men Q b = 4 + 8 * x3)) → j_M_isRightWrong_37 fu gg Q (cond w 1 0) (nI k) x3 x4 s0 s1 = gg (cond (w || rwr (po_men Q) ρ k) 1 0) (nI (k + 1)) := by
    intro x3 x4 s0 s1 a b ha hb' e1 e2 e3
    unfold j_M_isRightWrong_37 j_M_isRightWrong_77
    rw [e1, e2, if_pos (pu_in ha (by decide)), if_pos (pu_in hb' (by decide)), nI_clamp (by omega), nI_clamp (by omega)]
    by_cases q1 : po_men Q a = 6 + 8 * x3
    · rw [if_neg (fun q => q q1)]
      by_cases q2 : po_men Q b = 4 + 8 * x3
      · rw [if_neg (fun q => q q2)]
        exact h78 true (by rw [e3, decide_eq_true q1, decide_eq_true q2]; rfl)
      · rw [if_pos q2]
        exact h78 false (by rw [e3, decide_eq_true q1, decide_eq_false q2]; rfl)
    · rw [if_pos q1]
      exact h78 false (by rw [e3, decide_eq_false q1]; rfl)
  unfold b_M_isRightWrong_4
  rw [if_neg (show ¬ (4 : Int32) ≤ nI k from nI_ge (b := 4) hk (by decide))]
  rcases (show k = 0 ∨ k = 1 ∨ k = 2 ∨ k = 3 by omega) with e | e | e | e
  · subst e
    rw [if_neg (by decide)]
    exact h37 _ _ _ _ 4 7 (by omega) (by omega) (by decide) (by decide) rfl
  · subst e
    rw [if_pos (by decide)]
    exact h37 _ _ _ _ 4 0 (by omega) (by omega) (by decide) (by decide) rfl
  · subst e
    rw [if_neg (by decide)]
    exact h37 _ _ _ _ 60 63 (by omega) (by omega) (by decide) (by decide) rfl
  · subst e
    rw [if_pos (by decide)]
    exact h37 _ _ _ _ 60 56 (by omega) (by omega) (by decide) (by decide) rfl
theorem r_rgt (fu : Nat) (hfu : 64 < fu) (Q : PoT) (ρ : Nat) (hρ : ρ < 16) (hr : po_rights Q = nI ρ) : f_M_isRightWrong fu Q = some (cond (rbd (po_men Q) ρ) 1 0) := by
  obtain ⟨f, rfl⟩ : ∃ f, fu = f + 5 := ⟨fu - 5, by omega⟩
  unfold f_M_isRightWrong
  show b_M_isRightWrong_4 (f + 5) Q (l_M_isRightWrong_4 (f + 5) Q (f + 4)) (cond false 1 0) (nI 0) = _
  rw [r_rw1 (f + 5) Q ρ hρ hr _ _ 0 (by omega)]
  show b_M_isRightWrong_4 (f + 5) Q (l_M_isRightWrong_4 (f + 5) Q (f + 3)) _ (nI 1) = _
  rw [r_rw1 (f + 5) Q ρ hρ hr _ _ 1 (by omega)]
  show b_M_isRightWrong_4 (f + 5) Q (l_M_isRightWrong_4 (f + 5) Q (f + 2)) _ (nI 2) = _
  rw [r_rw1 (f + 5) Q ρ hρ hr _ _ 2 (by omega)]
  show b_M_isRightWrong_4 (f + 5) Q (l_M_isRightWrong_4 (f + 5) Q (f + 1)) _ (nI 3) = _
  rw [r_rw1 (f + 5) Q ρ hρ hr _ _ 3 (by omega)]
  show b_M_isRightWrong_4 (f + 5) Q _ _ (nI 4) = _
  unfold b_M_isRightWrong_4
  rw [if_pos (by decide), pu_nar]
  unfold rbd
  congr 2
  cases rwr (po_men Q) ρ 0 <;> cases rwr (po_men Q) ρ 1 <;> cases rwr (po_men Q) ρ 2 <;> cases rwr (po_men Q) ρ 3 <;> rfl
