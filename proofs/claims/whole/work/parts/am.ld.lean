/-! .. the passed square; all faults -/
def pgq (m : Nat → Int32) (c q : Nat) : Bool := decide (q / 8 = 5 - 3 * c) && (decide (m q = 0) && (decide (m (if c = 0 then q - 8 else q + 8) = 1 + 8 * nI (1 - c)) && (decide (m (if c = 0 then q + 8 else q - 8) = 0) && (nm m (if c = 0 then 6 else 4) q (1 + 8 * nI c) || nm m ((if c = 0 then 6 else 4) + 1) q (1 + 8 * nI c)))))
theorem dv8 : ∀ q : Fin 64, nI q / (8 : Int32) = nI (q.val / 8) ∧ nI q >>> ((3 : Int32) &&& 31) = nI (q.val / 8) := by decide +kernel
theorem m8 : ∀ q : Fin 64, (nI q - (-8 : Int32) = nI (q.val + 8)) ∧ (8 ≤ q.val → nI q + (-8 : Int32) = nI (q.val - 8)) ∧ (8 ≤ q.val → nI q - (8 : Int32) = nI (q.val - 8)) ∧ (nI q + (8 : Int32) = nI (q.val + 8)) := by decide +kernel
theorem c_pgd (D : BdT) (c q : Nat) (hc : c < 2) (hq : q < 64) (hs : bd_side D = nI c) (hp : bd_passed D = nI q) : f_Reader_hasGoodPassed D = some (cond (pgq (bd_men D) c q) 1 0) := by
  obtain ⟨-, d8⟩ := dv8 ⟨q, hq⟩
  obtain ⟨m1, m2, m3, m4⟩ := m8 ⟨q, hq⟩
  simp only at d8 m1 m2 m3 m4
  have h62 : ∀ (x3 s0 : Int32) (a b : Nat), a < 64 → b < 64 → nI q - x3 = nI a → nI q + x3 = nI b → q / 8 = 5 - 3 * c → a = (if c = 0 then q - 8 else q + 8) → b = (if c = 0 then q + 8 else q - 8) → s0 = 1 + 8 * nI (1 - c) → j_Reader_hasGoodPassed_62 D (nI q) (nI c) x3 s0 = some (cond (pgq (bd_men D) c q) 1 0) := by
    intro x3 s0 a b ha hb e1 e2 e3 e4 e5 e6
    unfold j_Reader_hasGoodPassed_62 pgq
    rw [← e4, ← e5, ← e6, decide_eq_true e3, Bool.true_and, e1, e2, if_pos (pu_in hq (by decide)), if_pos (pu_in ha (by decide)), if_pos (pu_in hb (by decide)), nI_clamp (by omega), nI_clamp (by omega), nI_clamp (by omega), cl_pa D hq hc rfl]
    simp only [Option.bind_some]
    by_cases k1 : bd_men D q = 0
    · rw [if_neg (fun w => w k1), decide_eq_true k1, Bool.true_and]
      by_cases k2 : bd_men D a = s0
      · rw [if_neg (fun w => w k2), decide_eq_true k2, Bool.true_and]
        by_cases k3 : bd_men D b = 0
        · rw [if_neg (fun w => w k3), decide_eq_true k3, Bool.true_and]
          cases (nm (bd_men D) (if c = 0 then 6 else 4) q (1 + 8 * nI c) || nm (bd_men D) ((if c = 0 then 6 else 4) + 1) q (1 + 8 * nI c)) with
          | true => rw [if_neg (by decide)]; rfl
          | false => rw [if_pos (by decide)]; rfl
        · rw [if_pos k3, decide_eq_false k3]; rfl
      · rw [if_pos k2, decide_eq_false k2]; rfl
    · rw [if_pos k1, decide_eq_false k1]; rfl
  unfold f_Reader_hasGoodPassed j_Reader_hasGoodPassed_35 j_Reader_hasGoodPassed_51
  rw [hp, hs, if_pos (show ¬ nI q = (-1 : Int32) from fun w => nI_neg (by omega) w.symm), d8]
  have hno : ∀ r : Nat, r = 5 - 3 * c → ¬ q / 8 = r → some (0 : Int32) = some (cond (pgq (bd_men D) c q) 1 0) := by
    intro r e h
    unfold pgq
    rw [decide_eq_false (by omega)]; rfl
  rcases (show c = 0 ∨ c = 1 by omega) with rfl | rfl
  · rw [if_neg (by decide)]
    by_cases h : q / 8 = 5
    · rw [if_pos (by rw [h]; rfl), if_neg (by decide), if_neg (by decide)]
      exact h62 8 9 (q - 8) (q + 8) (by omega) (by omega) (m3 (by omega)) m4 h rfl rfl (by decide)
    · rw [if_neg (show ¬ nI (q / 8) = (5 : Int32) from fun w => h ((nI_eq (b := 5) (by omega) (by decide)).mp w))]
      exact hno 5 rfl h
  · rw [if_pos (by decide)]
    by_cases h : q / 8 = 2
    · rw [if_pos (by rw [h]; rfl), if_pos (by decide), if_pos (by decide)]
      exact h62 (-8) 1 (q + 8) (q - 8) (by omega) (by omega) m1 (m2 (by omega)) h rfl rfl (by decide)
    · rw [if_neg (show ¬ nI (q / 8) = (2 : Int32) from fun w => h ((nI_eq (b := 2) (by omega) (by decide)).mp w))]
      exact hno 2 rfl h
theorem r_pgd (Q : PoT) (c q : Nat) (hc : c < 2) (hq : q < 64) (hs : po_side Q = nI c) (hp : po_passed Q = nI q) : f_M_isPassedWrong Q = some (cond (pgq (po_men Q) c q) 0 1) := by
  obtain ⟨d8, -⟩ := dv8 ⟨q, hq⟩
  obtain ⟨m1, m2, m3, m4⟩ := m8 ⟨q, hq⟩
  simp only at d8 m1 m2 m3 m4
  have h113 : ∀ (s0 : Int32), f_M_step (nI q) (-1) s0 = some (nx ((if c = 0 then 6 else 4) + 1) q) → f_M_step (nI q) 1 s0 = some (nx (if c = 0 then 6 else 4) q) → j_M_isPassedWrong_113 Q s0 = some (cond (nm (po_men Q) (if c = 0 then 6 else 4) q (1 + 8 * nI c) || nm (po_men Q) ((if c = 0 then 6 else 4) + 1) q (1 + 8 * nI c)) 0 1) := by
    intro s0 e1 e2
    unfold j_M_isPassedWrong_113
    rw [hp, hs, e1, e2]
    simp only [Option.bind_some]
    rw [pu_has Q (w := (if c = 0 then 6 else 4) + 1) (by split <;> omega) hq, pu_has Q (w := if c = 0 then 6 else 4) (by split <;> omega) hq]
    simp only [Option.bind_some]
    cases nm (po_men Q) ((if c = 0 then 6 else 4) + 1) q (1 + 8 * nI c) with
    | true => rw [if_pos (by decide), Bool.or_true]; rfl
    | false =>
      rw [if_neg (by decide), Bool.or_false]
      cases nm (po_men Q) (if c = 0 then 6 else 4) q (1 + 8 * nI c) with
      | true => rw [if_pos (by decide)]; rfl
      | false => rw [if_neg (by decide)]; rfl
  have h59 : ∀ (x3 : Int32) (a b : Nat), a < 64 → b < 64 → nI q - x3 = nI a → nI q + x3 = nI b → q / 8 = 5 - 3 * c → a = (if c = 0 then q - 8 else q + 8) → b = (if c = 0 then q + 8 else q - 8) → po_men Q q = 0 → j_M_isPassedWrong_59 Q x3 = some (cond (pgq (po_men Q) c q) 0 1) := by
    intro x3 a b ha hb e1 e2 e3 e4 e5 e6
    have e1c := nI_oth ⟨c, hc⟩
    simp only at e1c
    unfold j_M_isPassedWrong_59 pgq
    rw [← e4, ← e5, decide_eq_true e3, decide_eq_true e6, Bool.true_and, Bool.true_and, hp, hs, e1, e2, e1c, if_pos (pu_in ha (by decide)), if_pos (pu_in hb (by decide)), nI_clamp (by omega), nI_clamp (by omega)]
    by_cases k2 : po_men Q a = 1 + 8 * nI (1 - c)
    · rw [if_neg (fun w => w k2), decide_eq_true k2, Bool.true_and]
      by_cases k3 : po_men Q b = 0
      · rw [if_pos k3, decide_eq_true k3, Bool.true_and]
        rcases (show c = 0 ∨ c = 1 by omega) with rfl | rfl
        · rw [if_neg (by decide)]
          exact h113 (-1) (pu_step (w := 7) (by decide) hq) (pu_step (w := 6) (by decide) hq)
        · rw [if_pos (by decide)]
          exact h113 1 (pu_step (w := 5) (by decide) hq) (pu_step (w := 4) (by decide) hq)
      · rw [if_neg k3, decide_eq_false k3]; rfl
    · rw [if_pos k2, decide_eq_false k2]; rfl
  unfold f_M_isPassedWrong j_M_isPassedWrong_40
  rw [hp, hs, if_pos (nI_pos' (by omega)), if_pos (pu_in hq (by decide)), nI_clamp (by omega), d8]
  have hno : ∀ r : Nat, r = 5 - 3 * c → ¬ q / 8 = r → some (1 : Int32) = some (cond (pgq (po_men Q) c q) 0 1) := by
    intro r e h
    unfold pgq
    rw [decide_eq_false (by omega)]; rfl
  by_cases k1 : po_men Q q = 0
  · rw [if_neg (fun w => w k1)]
    rcases (show c = 0 ∨ c = 1 by omega) with rfl | rfl
    · rw [if_neg (by decide)]
      by_cases h : q / 8 = 5
      · rw [if_pos (by rw [h]; rfl), if_neg (by decide)]
        exact h59 8 (q - 8) (q + 8) (by omega) (by omega) (m3 (by omega)) m4 h rfl rfl k1
      · rw [if_neg (show ¬ nI (q / 8) = (5 : Int32) from fun w => h ((nI_eq (b := 5) (by omega) (by decide)).mp w))]
        exact hno 5 rfl h
    · rw [if_pos (by decide)]
      by_cases h : q / 8 = 2
      · rw [if_pos (by rw [h]; rfl), if_pos (by decide)]
        exact h59 (-8) (q + 8) (q - 8) (by omega) (by omega) m1 (m2 (by omega)) h rfl rfl k1
      · rw [if_neg (show ¬ nI (q / 8) = (2 : Int32) from fun w => h ((nI_eq (b := 2) (by omega) (by decide)).mp w))]
        exact hno 2 rfl h
  · rw [if_pos k1]
    unfold pgq
    rw [decide_eq_false k1, Bool.false_and, Bool.and_false]; rfl
/-! boards that are the same on the board -/
theorem hit_cg {m q : Nat → Int32} : ∀ (l : List Nat) (i : Nat), (∀ t ∈ l, q t = m t) → hit q l i = hit m l i
  | [], _, _ => rfl
  | t :: l, i, h => by
    show (if q t = 0 then hit q l (i + 1) else some (i, q t)) = (if m t = 0 then hit m l (i + 1) else some (i, m t))
    rw [h t List.mem_cons_self, hit_cg l (i + 1) (fun u hu => h u (List.mem_cons_of_mem _ hu))]
theorem any_cg {f g : Nat → Bool} : ∀ {l : List Nat}, (∀ x ∈ l, f x = g x) → l.any f = l.any g
  | [], _ => rfl
  | a :: l, h => by
    rw [List.any_cons, List.any_cons, h a List.mem_cons_self, any_cg (fun x hx => h x (List.mem_cons_of_mem _ hx))]
theorem att_cg {m q : Nat → Int32} (h : ∀ x, x < 64 → q x = m x) {c s : Nat} (hs : s < 64) : att q c s = att m c s := by
  unfold att
  congr 1
  · refine any_cg (fun w hw => ?_)
    have hw := List.mem_range'_1.mp hw
    unfold at_kn
    rcases nx_cases (w := w) (by omega) hs with e | ⟨t, ht, e⟩
    · rw [e]
      have : ((-1 : Int32) < 0) := by decide
      rw [decide_eq_false (fun q => q.1 this), decide_eq_false (fun q => q.1 this)]
    · rw [e, nI_clamp (by omega), h t ht]
  · refine any_cg (fun w hw => ?_)
    have hw := List.mem_range'_1.mp hw
    unfold at_ln
    rw [hit_cg (m := m) (q := q) _ _ (fun t ht => h t ((ryf_lt 7 (by omega) hs).1 t ht))]
theorem cN_cg {m q : Nat → Int32} (v : Int32) (h : ∀ x, x < 64 → q x = m x) : ∀ n, n ≤ 64 → cN q v n = cN m v n
  | 0, _ => rfl
  | n + 1, hn => by
    unfold cN
    rw [cN_cg v h n (by omega), h n (by omega)]
theorem rbd_cg {m q : Nat → Int32} (h : ∀ x, x < 64 → q x = m x) (ρ : Nat) : rbd q ρ = rbd m ρ := by
  have h1 : ∀ k, k < 4 → rth q k = rth m k := by
    intro k hk
    unfold rth
    rw [h (56 * (k / 2) + 4) (by omega), h (56 * (k / 2) + (if k % 2 = 0 then 7 else 0)) (by split <;> omega)]
  unfold rbd rwr
  rw [h1 0 (by omega), h1 1 (by omega), h1 2 (by omega), h1 3 (by omega)]
theorem nm_m {m q : Nat → Int32} (h : ∀ x, x < 64 → q x = m x) {w s : Nat} (hw : w < 16) (hs : s < 64) (x : Int32) : nm q w s x = nm m w s x := by
  unfold nm
  rcases nx_cases hw hs with e | ⟨t, ht, e⟩
  · rw [e]
    have : ((-1 : Int32) < 0) := by decide
    rw [decide_eq_false (fun q => q.1 this), decide_eq_false (fun q => q.1 this)]
  · rw [e, nI_clamp (by omega), h t ht]
theorem pgq_cg {m q : Nat → Int32} (h : ∀ x, x < 64 → q x = m x) {c t : Nat} (hc : c < 2) (ht : t < 64) : pgq q c t = pgq m c t := by
  unfold pgq
  by_cases e : t / 8 = 5 - 3 * c
  · rw [decide_eq_true e, h t ht, h (if c = 0 then t - 8 else t + 8) (by split <;> omega), h (if c = 0 then t + 8 else t - 8) (by split <;> omega), nm_m h (w := if c = 0 then 6 else 4) (by split <;> omega) ht, nm_m h (w := (if c = 0 then 6 else 4) + 1) (by split <;> omega) ht]
  · rw [decide_eq_false e]; rfl
/-! an empty draft -/
theorem c_clear2 (fu : Nat) : ∀ (r m i : Nat) (D : BdT), i + r = 64 → r < m → ∃ f, l_Board_clear_2 fu m (nI i) D = some (f, D.2) ∧ (∀ x, i ≤ x → x < 64 → f x = 0) ∧ ∀ x, x < i → f x = bd_men D x := by
  intro r
  induction r with
  | zero =>
    intro m i D hi hm
    obtain ⟨m, rfl⟩ : ∃ x, m = x + 1 := ⟨m - 1, by omega⟩
    refine ⟨bd_men D, ?_, fun x h1 h2 => by omega, fun _ _ => rfl⟩
    show b_Board_clear_2 fu _ (nI i) D = _
    unfold b_Board_clear_2
    rw [if_pos (show (64 : Int32) ≤ nI i from nI_le (a := 64) (by omega) (by omega))]
  | succ r ih =>
    intro m i D hi hm
    obtain ⟨m, rfl⟩ : ∃ x, m = x + 1 := ⟨m - 1, by omega⟩
    show ∃ f, b_Board_clear_2 fu (l_Board_clear_2 fu m) (nI i) D = _ ∧ _
    unfold b_Board_clear_2
    rw [if_neg (show ¬ (64 : Int32) ≤ nI i from nI_ge (b := 64) (by omega) (by decide)), if_pos (pu_in (show i < 64 by omega) (by decide)), nI_clamp (by omega), nI_1]
    obtain ⟨f, e1, e2, e3⟩ := ih m (i + 1) (upd (bd_men D) i 0, D.2) (by omega) (by omega)
    refine ⟨f, e1, fun x h1 h2 => ?_, fun x hx => ?_⟩
    · by_cases e : x = i
      · rw [e3 x (by omega), e]
        show upd (bd_men D) i 0 i = 0
        exact upd_s _ _ _
      · exact e2 x (by omega) h2
    · rw [e3 x (by omega)]
      show upd (bd_men D) i 0 x = _
      exact upd_o _ _ (by omega)
theorem c_clear (fu : Nat) (hfu : 64 < fu) (D : BdT) : ∃ D', f_Board_clear fu D = some D' ∧ (∀ x, x < 64 → bd_men D' x = 0) ∧ bd_held D' 0 = 0 ∧ bd_held D' 1 = 0 ∧ bd_side D' = 0 ∧ bd_rights D' = 0 ∧ bd_passed D' = -1 ∧ bd_depth D' = 0 ∧ DR D' := by
  obtain ⟨f, e1, e2, -⟩ := c_clear2 fu 64 fu 0 D (by omega) (by omega)
  unfold f_Board_clear j_Board_clear_21
  rw [show l_Board_clear_2 fu fu (0 : Int32) D = _ from e1]
  simp only [Option.bind_some]
  rw [if_pos (by decide), if_pos (by decide)]
  have h0 : ∀ x, x < 64 → f x = 0 := fun x hx => e2 x (by omega) hx
  refine ⟨_, rfl, h0, rfl, rfl, rfl, rfl, rfl, rfl, fun d hd i hi => ?_, fun s hs => ?_, fun s hs h => ?_⟩
  · have hl : bt (vp_updL (vp_updL (bd_held D) 0 0) 1 0 d) i = false := by
      unfold vp_updL
      rcases (show d = 0 ∨ d = 1 by omega) with rfl | rfl
      · rw [if_neg (by decide), if_pos rfl, bt_0]
      · rw [if_pos rfl, bt_0]
    refine Eq.trans hl ?_
    show false = own f d i
    unfold own
    rw [h0 i hi]
    exact (decide_eq_false (fun q => q.1 rfl)).symm
  · show am_in (f s) 16 = true
    rw [h0 s hs]; decide
  · exact absurd (h0 s hs) h
/-! reading and its faults -/
/-- the draft stands at that position -/
def RD (D : BdT) (z : Pz) : Prop := (∀ x, x < 64 → bd_men D x = zm z x) ∧ okh D ∧ bd_side D = nI (zc z) ∧ bd_rights D = nI (zr z) ∧ bd_passed D = zp z ∧ KB (bd_kings D) (zm z)
theorem kng_cg {m q : Nat → Int32} (h : ∀ x, x < 64 → q x = m x) {d k : Nat} (hk : kng m d k) : kng q d k :=
  ⟨hk.1, by rw [h k hk.1]; exact hk.2.1, fun t ht e => hk.2.2 t ht (by rw [← h t ht]; exact e)⟩
theorem read_sim (fu : Nat) (hfu : 64 < fu) {T : TxT} {G : RtT} {tx : List Nat} (hT : TX T G tx) (D : BdT) (r : RdT) (Q : PoT) (N : NuT) (ho : oq (po_men Q)) : ∃ (k : Nat) (D' : BdT) (r' : RdT) (Q' : PoT) (N' : NuT), k ≤ 6 ∧ f_Reader_read fu T D r = some (nI k, D', r') ∧ f_M_fault fu G Q N = some (nI k, Q', N') ∧ oq (po_men Q') ∧ (k = 0 → ∃ z, Gz z ∧ RQ Q' z ∧ RD D' z) := by
  obtain ⟨D0, a1, a2, -, -, -, a6, a7, -, a9⟩ := c_clear fu hfu D
  obtain ⟨ok, D1, r1, t, Q1, b1, b2, b3, b4⟩ := well_sim fu hfu hT D0 Q N a9 a2 a6 a7 ho
  unfold f_Reader_read f_M_fault
  rw [a1, b2]
  simp only [Option.bind_some]
  rw [b1]
  simp only [Option.bind_some]
  rcases b4 with ⟨c1, c2⟩ | ⟨c1, Q2, N2, c2, c3, c4⟩
  · rw [if_pos c1, c2, if_neg (by decide)]
    exact ⟨1, _, _, _, _, by omega, rfl, rfl, b3, fun q => by cases q⟩
  · rw [if_neg c1, c2]
    simp only [Option.bind_some]
    cases ok with
    | false =>
      rw [if_neg (by decide), if_neg (by decide)]
      exact ⟨1, _, _, _, _, by omega, rfl, rfl, c3, fun q => by cases q⟩
    | true =>
      obtain ⟨c, ρ, d1, d2, d3, d4, d5, d6, d7, d8, d9, d10⟩ := c4 rfl
      rw [if_pos (by decide), if_pos (by decide)]
      obtain ⟨D2, e1, e2, e3, e4, e5, e6⟩ := c_kings fu hfu D1
      rw [e1, r_countOf fu hfu, r_countOf fu hfu, cN_cg 6 d10 64 (by omega), cN_cg 14 d10 64 (by omega)]
      simp only [Option.bind_some]
      have l6 := cN_le (bd_men D1) 6 64
      have l14 := cN_le (bd_men D1) 14 64
      have hD2 := dms_DR e2 d3
      have hm2 : bd_men D2 = bd_men D1 := e2.1
      cases htk : tk (bd_men D1) with
      | false =>
        rw [if_neg (by decide)]
        unfold tk at htk
        by_cases h6 : cN (bd_men D1) 6 64 = 1
        · rw [decide_eq_true h6, Bool.true_and, decide_eq_false_iff_not] at htk
          rw [if_neg (fun q => q (by rw [h6]; rfl)), if_neg (show ¬ nI (cN (bd_men D1) 14 64) = (1 : Int32) from fun q => htk ((nI_eq (b := 1) (by omega) (by decide)).mp q))]
          exact ⟨2, _, _, _, _, by omega, rfl, rfl, c3, fun q => by cases q⟩
        · rw [if_pos (show ¬ nI (cN (bd_men D1) 6 64) = (1 : Int32) from fun q => h6 ((nI_eq (b := 1) (by omega) (by decide)).mp q))]
          exact ⟨2, _, _, _, _, by omega, rfl, rfl, c3, fun q => by cases q⟩
      | true =>
        have hKB := e6 htk
        unfold tk at htk
        rw [Bool.and_eq_true, decide_eq_true_eq, decide_eq_true_eq] at htk
        rw [if_pos (by decide), if_neg (fun q => q (by rw [htk.1]; rfl)), if_pos (by rw [htk.2]; rfl)]
        unfold f_Reader_hasPawnAtEnd f_M_hasPawnAtEnd
        rw [show l_Reader_hasPawnAtEnd_2 fu D2 fu (0 : Int32) = _ from c_pe fu D2 8 fu 0 (by omega) (by omega), show l_M_hasPawnAtEnd_4 fu Q2 fu (0 : Int32) (0 : Int32) = _ from r_pe fu Q2 8 fu 0 false (by omega) (by omega), Bool.false_or, show (List.range' 0 8).any (pe1 (bd_men D2)) = pe (bd_men D1) from by rw [hm2]; rfl, show (List.range' 0 8).any (pe1 (po_men Q2)) = pe (bd_men D1) from pe_cg d10]
        simp only [Option.bind_some]
        cases hpe : pe (bd_men D1) with
        | true =>
          rw [if_neg (by decide), if_neg (by decide)]
          exact ⟨3, _, _, _, _, by omega, rfl, rfl, c3, fun q => by cases q⟩
        | false =>
          rw [if_pos (by decide), if_pos (by decide)]
          obtain ⟨k, k1, k2⟩ := hKB (1 - c) (by omega)
          rw [pu_isLegal fu hfu D2 hD2.2.1 c k d1 (e3.trans d4) k2 k1.1, hm2]
          have e1c := nI_oth ⟨c, d1⟩
          simp only at e1c
          rw [d5, e1c, pu_mCheck fu hfu Q2 (fun s hs => by rw [d10 s hs]; exact d3.2.1 s hs) (1 - c) k (by omega) (kng_cg d10 k1), show 1 - (1 - c) = c by omega, att_cg d10 k1.1]
          simp only [Option.bind_some]
          cases hat : att (bd_men D1) c k with
          | true =>
            rw [if_neg (by decide), if_neg (by decide)]
            exact ⟨4, _, _, _, _, by omega, rfl, rfl, c3, fun q => by cases q⟩
          | false =>
            rw [if_pos (by decide), if_pos (by decide), c_rgt D2 ρ d2 (e4.trans d6), r_rgt fu hfu Q2 ρ d2 d7, rbd_cg d10, hm2]
            simp only [Option.bind_some]
            cases hrb : rbd (bd_men D1) ρ with
            | true =>
              rw [if_neg (by decide), if_neg (by decide)]
              exact ⟨5, _, _, _, _, by omega, rfl, rfl, c3, fun q => by cases q⟩
            | false =>
              rw [if_pos (by decide), if_pos (by decide)]
              -- all is well but for the passed square
              have fin : (bd_passed D1 = -1 ∨ ∃ q, q < 64 ∧ bd_passed D1 = nI q ∧ pgq (bd_men D1) c q = true) → ∃ z, Gz z ∧ RQ Q2 z ∧ RD D2 z := by
                intro hps
                have hokm : okm (po_men Q2) := fun s hs => by rw [d10 s hs]; exact d3.2.1 s hs
                refine ⟨(po_men Q2, c, ρ, bd_passed D1), ⟨⟨⟨hokm, d1, d2⟩, fun s hs h => ?_, fun d hd => ?_, fun s hs h => ?_, fun d hd => ?_, ?_, c3⟩, ?_⟩, ⟨rfl, d5, d7, d9⟩, fun x hx => by rw [hm2]; exact (d10 x hx).symm, hD2.1, e3.trans d4, e4.trans d6, e5, fun d hd => ?_⟩
                · show po_men Q2 s &&& 7 = 1 ∨ po_men Q2 s &&& 7 = 2 ∨ po_men Q2 s &&& 7 = 3 ∨ po_men Q2 s &&& 7 = 4 ∨ po_men Q2 s &&& 7 = 5 ∨ po_men Q2 s &&& 7 = 6
                  have h' : ¬ po_men Q2 s = 0 := h
                  rw [d10 s hs] at h' ⊢
                  exact d3.2.2 s hs h'
                · obtain ⟨k', q1, -⟩ := hKB d hd
                  exact ⟨k', kng_cg d10 q1⟩
                · have h' : po_men Q2 s &&& 7 = 1 := h
                  rw [d10 s hs] at h'
                  exact pe_no hpe s hs h'
                · show (ρ.testBit (2 * d) = true → po_men Q2 (56 * d + 4) = 6 + 8 * nI d ∧ po_men Q2 (56 * d + 7) = 4 + 8 * nI d) ∧ (ρ.testBit (2 * d + 1) = true → po_men Q2 (56 * d + 4) = 6 + 8 * nI d ∧ po_men Q2 (56 * d) = 4 + 8 * nI d)
                  have hall : ∀ k, k < 4 → ρ.testBit k = true → rth (bd_men D1) k = true := by
                    intro k hk hbt
                    unfold rbd rwr at hrb
                    simp only [Bool.or_eq_false_iff, Bool.and_eq_false_iff, Bool.not_eq_false'] at hrb
                    rcases (show k = 0 ∨ k = 1 ∨ k = 2 ∨ k = 3 by omega) with e | e | e | e
                    · subst e; rcases hrb.1 with w | w
                      · rw [hbt] at w; cases w
                      · exact w
                    · subst e; rcases hrb.2.1 with w | w
                      · rw [hbt] at w; cases w
                      · exact w
                    · subst e; rcases hrb.2.2.1 with w | w
                      · rw [hbt] at w; cases w
                      · exact w
                    · subst e; rcases hrb.2.2.2 with w | w
                      · rw [hbt] at w; cases w
                      · exact w
                  rw [d10 _ (show 56 * d + 4 < 64 by omega), d10 _ (show 56 * d + 7 < 64 by omega), d10 _ (show 56 * d < 64 by omega)]
                  constructor
                  · intro hbt
                    have := hall (2 * d) (by omega) hbt
                    unfold rth at this
                    rw [Bool.and_eq_true, decide_eq_true_eq, decide_eq_true_eq, show 2 * d / 2 = d by omega, if_pos (by omega)] at this
                    exact this
                  · intro hbt
                    have := hall (2 * d + 1) (by omega) hbt
                    unfold rth at this
                    rw [Bool.and_eq_true, decide_eq_true_eq, decide_eq_true_eq, show (2 * d + 1) / 2 = d by omega, if_neg (by omega)] at this
                    exact this
                · show bd_passed D1 = -1 ∨ ∃ q, q < 64 ∧ bd_passed D1 = nI q ∧ po_men Q2 q = 0 ∧ ((c = 0 ∧ q / 8 = 5 ∧ po_men Q2 (q - 8) = 1 + 8 * nI 1) ∨ (c = 1 ∧ q / 8 = 2 ∧ po_men Q2 (q + 8) = 1 + 8 * nI 0))
                  rcases hps with h | ⟨q, q1, q2, q3⟩
                  · exact Or.inl h
                  · right
                    unfold pgq at q3
                    simp only [Bool.and_eq_true, decide_eq_true_eq] at q3
                    refine ⟨q, q1, q2, by rw [d10 q q1]; exact q3.2.1, ?_⟩
                    rcases (show c = 0 ∨ c = 1 by omega) with e | e
                    · subst e
                      left
                      have h5 : q / 8 = 5 := q3.1
                      have h9 := q3.2.2.1
                      rw [if_pos rfl] at h9
                      exact ⟨rfl, h5, by rw [d10 _ (show q - 8 < 64 by omega)]; exact h9⟩
                    · subst e
                      right
                      have h5 : q / 8 = 2 := q3.1
                      have h9 := q3.2.2.1
                      rw [if_neg (by decide)] at h9
                      exact ⟨rfl, h5, by rw [d10 _ (show q + 8 < 64 by omega)]; exact h9⟩
                · show chk (po_men Q2) (1 - c) = false
                  unfold chk
                  rw [ksq_eq (kng_cg d10 k1), show 1 - (1 - c) = c by omega, att_cg d10 k1.1]
                  exact hat
                · obtain ⟨k', q1, q2⟩ := hKB d hd
                  exact ⟨k', kng_cg d10 q1, q2⟩
              rcases d8 with hm1 | ⟨q, hq, hpq⟩
              · unfold f_Reader_hasGoodPassed f_M_isPassedWrong
                rw [e5, hm1, d9, hm1, if_neg (fun q => q rfl), if_neg (by decide)]
                simp only [Option.bind_some]
                rw [if_neg (by decide), if_pos trivial]
                exact ⟨0, _, _, _, _, by omega, rfl, rfl, c3, fun _ => fin (Or.inl hm1)⟩
              · rw [c_pgd D2 c q d1 hq (e3.trans d4) (e5.trans hpq), r_pgd Q2 c q d1 hq d5 (d9.trans hpq), pgq_cg d10 d1 hq, hm2]
                simp only [Option.bind_some]
                cases hpg : pgq (bd_men D1) c q with
                | true =>
                  rw [if_neg (by decide), if_pos (by decide)]
                  exact ⟨0, _, _, _, _, by omega, rfl, rfl, c3, fun _ => fin (Or.inr ⟨q, hq, hpq, hpg⟩)⟩
                | false =>
                  rw [if_pos (by decide), if_neg (by decide)]
                  exact ⟨6, _, _, _, _, by omega, rfl, rfl, c3, fun q => by cases q⟩
