/-! THE REST OF A POSITION'S TEXT -/
/-- same men -/
def dms (D D' : BdT) : Prop := bd_men D' = bd_men D ∧ bd_held D' = bd_held D
theorem dms_DR {D D' : BdT} (h : dms D D') (hD : DR D) : DR D' := by
  obtain ⟨h1, h2⟩ := h
  obtain ⟨d1, d2, d3⟩ := hD
  refine ⟨fun d hd i hi => ?_, by rw [h1]; exact d2, by rw [h1]; exact d3⟩
  rw [h1, h2]
  exact d1 d hd i hi
def sdk (tx : List Nat) (p : Nat) : Bool := decide (sg tx p = 98) || decide (sg tx p = 119)
theorem c_side {T : TxT} {G : RtT} {tx : List Nat} (hT : TX T G tx) (D : BdT) {p : Nat} (hp : p < 1000) : ∃ D', f_Reader_readSide T D (nI p) = some (cond (sdk tx p) 1 0, D', nI (cond (sdk tx p) (p + 1) p)) ∧ dms D D' ∧ bd_side D' = nI (if sg tx p = 98 then 1 else 0) ∧ bd_rights D' = bd_rights D ∧ bd_passed D' = bd_passed D := by
  have hs := (sg_lt hT p).1
  unfold f_Reader_readSide j_Reader_readSide_25 sdk
  rw [tx_at hT (by omega), show (98 : Int32) = nI 98 from rfl, show (119 : Int32) = nI 119 from rfl, tx_take hT (by omega) (by omega)]
  simp only [Option.bind_some]
  by_cases h98 : sg tx p = 98
  · rw [if_neg (fun q => q (by rw [h98])), if_pos h98, decide_eq_true h98]
    simp only
    rw [if_pos (by decide), if_pos h98]
    exact ⟨_, rfl, ⟨rfl, rfl⟩, rfl, rfl, rfl⟩
  · rw [if_pos (show ¬ nI (sg tx p) = nI 98 from fun q => h98 ((nI_eq (by omega) (by omega)).mp q)), if_neg h98, decide_eq_false h98]
    simp only
    rw [if_neg (fun q => q trivial), tx_take hT (by omega) (by omega), if_neg h98]
    simp only [Option.bind_some]
    by_cases h119 : sg tx p = 119
    · rw [if_pos h119, decide_eq_true h119]
      simp only
      rw [if_neg (by decide)]
      exact ⟨_, rfl, ⟨rfl, rfl⟩, rfl, rfl, rfl⟩
    · rw [if_neg h119, decide_eq_false h119]
      simp only
      rw [if_pos trivial]
      exact ⟨_, rfl, ⟨rfl, rfl⟩, rfl, rfl, rfl⟩
def rLt (i : Nat) : Nat := [75, 81, 107, 113].getD i 0
def rlp (tx : List Nat) : Nat → Nat → Nat → Nat → Nat × Nat
  | 0, _, p, ρ => (p, ρ)
  | r + 1, i, p, ρ => if sg tx p = rLt i then rlp tx r (i + 1) (p + 1) (ρ ||| 2 ^ i) else rlp tx r (i + 1) p ρ
theorem ror_fin : ∀ ρ : Fin 16, ∀ i : Fin 4, (nI ρ ||| ((1 : Int32) <<< (nI i &&& 31))) = nI (ρ.val ||| 2 ^ i.val) ∧ ρ.val ||| 2 ^ i.val < 16 := by decide +kernel
theorem rlt_fin : ∀ i : Fin 4, tb_RIGHTS i = nI (rLt i) ∧ rLt i < 128 := by decide +kernel
theorem rlp_b (tx : List Nat) : ∀ (r i p ρ : Nat), i + r = 4 → ρ < 16 → (rlp tx r i p ρ).1 ≤ p + r ∧ (rlp tx r i p ρ).2 < 16
  | 0, i, p, ρ, _, h => ⟨Nat.le_refl _, h⟩
  | r + 1, i, p, ρ, hi, h => by
    unfold rlp
    split
    · have := rlp_b tx r (i + 1) (p + 1) (ρ ||| 2 ^ i) (by omega) (ror_fin ⟨ρ, h⟩ ⟨i, by omega⟩).2
      exact ⟨by omega, this.2⟩
    · have := rlp_b tx r (i + 1) p ρ (by omega) h
      exact ⟨by omega, this.2⟩
theorem c_r13 (fu : Nat) {T : TxT} {G : RtT} {tx : List Nat} (hT : TX T G tx) : ∀ (r m i p ρ : Nat) (D : BdT), i + r = 4 → r < m → p + r < 1000 → ρ < 16 → bd_rights D = nI ρ → ∃ D', l_Reader_readRights_13 fu T m (nI i) D (nI p) = some (D', nI (rlp tx r i p ρ).1) ∧ dms D D' ∧ bd_side D' = bd_side D ∧ bd_rights D' = nI (rlp tx r i p ρ).2 ∧ bd_passed D' = bd_passed D := by
  intro r
  induction r with
  | zero =>
    intro m i p ρ D hi hm hp hρ hD
    obtain ⟨m, rfl⟩ : ∃ x, m = x + 1 := ⟨m - 1, by omega⟩
    refine ⟨D, ?_, ⟨rfl, rfl⟩, rfl, hD, rfl⟩
    show b_Reader_readRights_13 fu T _ (nI i) D (nI p) = _
    unfold b_Reader_readRights_13
    rw [if_pos (show (4 : Int32) ≤ nI i from nI_le (a := 4) (by omega) (by omega))]
    rfl
  | succ r ih =>
    intro m i p ρ D hi hm hp hρ hD
    obtain ⟨m, rfl⟩ : ∃ x, m = x + 1 := ⟨m - 1, by omega⟩
    show ∃ D', b_Reader_readRights_13 fu T (l_Reader_readRights_13 fu T m) (nI i) D (nI p) = _ ∧ _
    obtain ⟨r1, r2⟩ := rlt_fin ⟨i, by omega⟩
    obtain ⟨o1, o2⟩ := ror_fin ⟨ρ, hρ⟩ ⟨i, by omega⟩
    simp only at r1 r2 o1 o2
    unfold b_Reader_readRights_13 j_Reader_readRights_50 rlp
    rw [if_neg (show ¬ (4 : Int32) ≤ nI i from nI_ge (b := 4) (by omega) (by decide)), if_pos (pu_in (show i < 4 by omega) (by decide)), nI_clamp (by omega), r1, tx_take hT (by omega) r2, nI_1]
    simp only [Option.bind_some]
    by_cases h : sg tx p = rLt i
    · rw [if_pos h, if_pos h]
      simp only
      rw [if_neg (by decide), hD, o1]
      obtain ⟨D', e1, e2, e3, e4, e5⟩ := ih m (i + 1) (p + 1) (ρ ||| 2 ^ i) (bd_men D, bd_held D, bd_kings D, bd_side D, nI (ρ ||| 2 ^ i), bd_passed D, bd_depth D, bd_made D, bd_taken D, bd_takenAt D, bd_rightsBefore D, bd_passedBefore D) (by omega) (by omega) (by omega) o2 rfl
      exact ⟨D', e1, e2, e3, e4, e5⟩
    · rw [if_neg h, if_neg h]
      simp only
      rw [if_pos trivial]
      exact ih m (i + 1) p ρ D (by omega) (by omega) (by omega) hρ hD
theorem r_79 (fu : Nat) (N : NuT) {T : TxT} {G : RtT} {tx : List Nat} (hT : TX T G tx) : ∀ (r m i p ρ : Nat) (Q : PoT), i + r = 4 → r < m → p + r < 1000 → ρ < 16 → po_rights Q = nI ρ → l_M_readRest_79 fu G N m (nI p) (nI i) Q = some (nI (rlp tx r i p ρ).1, po_men Q, po_side Q, nI (rlp tx r i p ρ).2, po_passed Q, po_clock Q) := by
  intro r
  induction r with
  | zero =>
    intro m i p ρ Q hi hm hp hρ hD
    obtain ⟨m, rfl⟩ : ∃ x, m = x + 1 := ⟨m - 1, by omega⟩
    show b_M_readRest_79 fu G N _ (nI p) (nI i) Q = _
    unfold b_M_readRest_79
    rw [if_pos (show (4 : Int32) ≤ nI i from nI_le (a := 4) (by omega) (by omega))]
    show some (nI p, Q) = some (nI p, po_men Q, po_side Q, nI ρ, po_passed Q, po_clock Q)
    rw [← hD]
  | succ r ih =>
    intro m i p ρ Q hi hm hp hρ hD
    obtain ⟨m, rfl⟩ : ∃ x, m = x + 1 := ⟨m - 1, by omega⟩
    show b_M_readRest_79 fu G N (l_M_readRest_79 fu G N m) (nI p) (nI i) Q = _
    obtain ⟨r1, r2⟩ := rlt_fin ⟨i, by omega⟩
    obtain ⟨o1, o2⟩ := ror_fin ⟨ρ, hρ⟩ ⟨i, by omega⟩
    simp only at r1 r2 o1 o2
    have hs := (sg_lt hT p).1
    have h119 : j_M_readRest_119 fu (l_M_readRest_79 fu G N m) G Q N (nI p) (nI i) (nI (rLt i)) = some (nI (rlp tx (r + 1) i p ρ).1, po_men Q, po_side Q, nI (rlp tx (r + 1) i p ρ).2, po_passed Q, po_clock Q) := by
      unfold j_M_readRest_119 j_M_readRest_147 rlp
      rw [rf_sign hT (by omega)]
      simp only [Option.bind_some]
      by_cases h : sg tx p = rLt i
      · rw [if_neg (fun q => q (by rw [h])), if_pos h, hD, o1, nI_1, nI_1]
        exact ih m (i + 1) (p + 1) (ρ ||| 2 ^ i) (po_men Q, po_side Q, nI (ρ ||| 2 ^ i), po_passed Q, po_clock Q) (by omega) (by omega) (by omega) o2 rfl
      · rw [if_pos (show ¬ nI (sg tx p) = nI (rLt i) from fun q => h ((nI_eq (by omega) (by omega)).mp q)), if_neg h, nI_1]
        exact ih m (i + 1) p ρ Q (by omega) (by omega) (by omega) hρ hD
    unfold b_M_readRest_79
    rw [if_neg (show ¬ (4 : Int32) ≤ nI i from nI_ge (b := 4) (by omega) (by decide))]
    rcases (show i = 0 ∨ i = 1 ∨ i = 2 ∨ i = 3 by omega) with e | e | e | e
    · subst e; rw [if_neg (fun q => q rfl)]; exact h119
    · subst e; rw [if_pos (by decide), if_neg (fun q => q rfl)]; exact h119
    · subst e; rw [if_pos (by decide), if_pos (by decide), if_neg (fun q => q rfl)]; exact h119
    · subst e; rw [if_pos (by decide), if_pos (by decide), if_pos (by decide)]; exact h119
/-- the place behind the rights, and the rights -/
def rgt (tx : List Nat) (p : Nat) : Nat × Nat := if sg tx p = 45 then (p + 1, 0) else rlp tx 4 0 p 0
def rgk (tx : List Nat) (p : Nat) : Bool := decide (sg tx p = 45) || decide (¬ (rlp tx 4 0 p 0).2 = 0)
theorem rgt_b (tx : List Nat) (p : Nat) : (rgt tx p).1 ≤ p + 4 ∧ (rgt tx p).2 < 16 := by
  unfold rgt
  split
  · exact ⟨by show p + 1 ≤ _; omega, by show 0 < 16; omega⟩
  · exact rlp_b tx 4 0 p 0 (by omega) (by omega)
theorem c_rights (fu : Nat) (hfu : 64 < fu) {T : TxT} {G : RtT} {tx : List Nat} (hT : TX T G tx) (D : BdT) {p : Nat} (hp : p < 900) (hD : bd_rights D = 0) : ∃ D', f_Reader_readRights fu T D (nI p) = some (cond (rgk tx p) 1 0, D', nI (rgt tx p).1) ∧ dms D D' ∧ bd_side D' = bd_side D ∧ bd_rights D' = nI (rgt tx p).2 ∧ bd_passed D' = bd_passed D := by
  unfold f_Reader_readRights rgk rgt
  rw [show (45 : Int32) = nI 45 from rfl, tx_take hT (by omega) (by omega)]
  simp only [Option.bind_some]
  by_cases h : sg tx p = 45
  · rw [if_pos h, if_pos h, decide_eq_true h]
    simp only
    rw [if_neg (by decide)]
    exact ⟨D, rfl, ⟨rfl, rfl⟩, rfl, hD, rfl⟩
  · rw [if_neg h, if_neg h, decide_eq_false h]
    simp only
    rw [if_pos trivial]
    obtain ⟨D', e1, e2, e3, e4, e5⟩ := c_r13 fu hT 4 fu 0 p 0 D (by omega) (by omega) (by omega) (by omega) hD
    have hb := (rlp_b tx 4 0 p 0 (by omega) (by omega)).2
    rw [show l_Reader_readRights_13 fu T fu (0 : Int32) D (nI p) = _ from e1]
    simp only [Option.bind_some]
    unfold j_Reader_readRights_56
    rw [e4]
    refine ⟨D', ?_, e2, e3, e4, e5⟩
    by_cases h0 : (rlp tx 4 0 p 0).2 = 0
    · rw [if_pos (by rw [h0]; decide), decide_eq_false (fun q => q h0)]
      rfl
    · rw [if_neg (nI_ne0 (by omega) (by omega)), decide_eq_true h0]
      rfl
/-- the passed square -/
def psk (tx : List Nat) (p : Nat) : Bool := decide (sg tx p = 45) || decide ((97 ≤ sg tx p ∧ sg tx p ≤ 104) ∧ (49 ≤ sg tx (p + 1) ∧ sg tx (p + 1) ≤ 56))
def psq (tx : List Nat) (p : Nat) : Int32 := if sg tx p = 45 then -1 else nI ((sg tx p - 97) + 8 * (sg tx (p + 1) - 49))
def psn (tx : List Nat) (p : Nat) : Nat := if sg tx p = 45 then p + 1 else p + 2
theorem lt97 : ∀ c : Fin 128, (nI c - 97 < 0 ↔ c.val < 97) ∧ ((7 : Int32) < nI c - 97 ↔ 104 < c.val) ∧ (nI c - 49 < 0 ↔ c.val < 49) ∧ (nI c - 49 ≤ 7 ↔ c.val ≤ 56) ∧ (nI c - 48 < 0 ↔ c.val < 48) ∧ (nI c - 48 < 1 ↔ c.val < 49) ∧ (nI c - 48 ≤ 9 ↔ c.val ≤ 57) ∧ ((9 : Int32) < nI c - 48 ↔ 57 < c.val) ∧ (nI c - 48 ≤ 0 ↔ c.val ≤ 48) := by decide +kernel
theorem c_passed {T : TxT} {G : RtT} {tx : List Nat} (hT : TX T G tx) (D : BdT) {p : Nat} (hp : p < 900) (hD : bd_passed D = -1) : ∃ D' r', f_Reader_readPassed T D (nI p) = some (cond (psk tx p) 1 0, D', r') ∧ dms D D' ∧ bd_side D' = bd_side D ∧ bd_rights D' = bd_rights D ∧ (psk tx p = true → r' = nI (psn tx p) ∧ bd_passed D' = psq tx p) := by
  have s1 := (sg_lt hT p).1
  have s2 := (sg_lt hT (p + 1)).1
  obtain ⟨a1, a2, -⟩ := lt97 ⟨sg tx p, by omega⟩
  obtain ⟨-, -, a3, a4, -⟩ := lt97 ⟨sg tx (p + 1), by omega⟩
  simp only at a1 a2 a3 a4
  unfold f_Reader_readPassed psk psn psq
  rw [show (45 : Int32) = nI 45 from rfl, tx_take hT (by omega) (by omega)]
  simp only [Option.bind_some]
  by_cases h : sg tx p = 45
  · rw [if_pos h, decide_eq_true h]
    simp only
    rw [if_neg (by decide)]
    exact ⟨D, _, rfl, ⟨rfl, rfl⟩, rfl, rfl, fun _ => ⟨by rw [if_pos h], by rw [if_pos h]; exact hD⟩⟩
  · rw [if_neg h, decide_eq_false h, Bool.false_or]
    simp only
    rw [if_pos trivial, tx_at hT (by omega), nI_1, tx_at hT (by omega)]
    simp only [Option.bind_some]
    by_cases b1 : sg tx p < 97
    · rw [if_pos (a1.mpr b1), decide_eq_false (by omega)]
      exact ⟨D, _, rfl, ⟨rfl, rfl⟩, rfl, rfl, fun q => by cases q⟩
    · rw [if_neg (fun q => b1 (a1.mp q))]
      by_cases b2 : 104 < sg tx p
      · rw [if_pos (a2.mpr b2), decide_eq_false (by omega)]
        exact ⟨D, _, rfl, ⟨rfl, rfl⟩, rfl, rfl, fun q => by cases q⟩
      · rw [if_neg (fun q => b2 (a2.mp q))]
        by_cases b3 : sg tx (p + 1) < 49
        · rw [if_pos (a3.mpr b3), decide_eq_false (by omega)]
          exact ⟨D, _, rfl, ⟨rfl, rfl⟩, rfl, rfl, fun q => by cases q⟩
        · rw [if_neg (fun q => b3 (a3.mp q))]
          by_cases b4 : sg tx (p + 1) ≤ 56
          · rw [if_pos (a4.mpr b4), decide_eq_true (by omega)]
            refine ⟨_, _, rfl, ⟨rfl, rfl⟩, rfl, rfl, fun _ => ⟨?_, ?_⟩⟩
            · rw [if_neg h]; exact nI_add p 2
            · rw [if_neg h]
              show (nI (sg tx p) - 97) + 8 * (nI (sg tx (p + 1)) - 49) = _
              rw [show nI (sg tx p) - (97 : Int32) = nI (sg tx p - 97) from nI_sub (b := 97) (by omega), show nI (sg tx (p + 1)) - (49 : Int32) = nI (sg tx (p + 1) - 49) from nI_sub (b := 49) (by omega), mul8, nI_add]
          · rw [if_neg (fun q => b4 (a4.mp q)), decide_eq_false (by omega)]
            exact ⟨D, _, rfl, ⟨rfl, rfl⟩, rfl, rfl, fun q => by cases q⟩
/-! numbers -/
def dg (tx : List Nat) (p : Nat) : Prop := 48 ≤ sg tx p ∧ sg tx p ≤ 57
def nln (tx : List Nat) (p : Nat) : Nat := if sg tx p = 48 then 1 else if 48 ≤ sg tx (p + 1) ∧ sg tx (p + 1) ≤ 57 then (if 48 ≤ sg tx (p + 2) ∧ sg tx (p + 2) ≤ 57 then 3 else 2) else 1
theorem c_num (fu : Nat) (hfu : 64 < fu) {T : TxT} {G : RtT} {tx : List Nat} (hT : TX T G tx) (least : Nat) (hl : least < 2) {p : Nat} (hp : p < 900) : f_Reader_readNumber fu (nI least) T (nI p) = some (if 48 + least ≤ sg tx p ∧ sg tx p ≤ 57 then (1, nI (p + nln tx p)) else (0, nI p)) := by
  have s1 := (sg_lt hT p).1
  obtain ⟨-, -, -, -, a5, a6, a7, a8, a9⟩ := lt97 ⟨sg tx p, by omega⟩
  simp only at a5 a6 a7 a8 a9
  unfold f_Reader_readNumber
  rw [tx_at hT (by omega)]
  simp only [Option.bind_some]
  have hlow : nI (sg tx p) - 48 < nI least ↔ sg tx p < 48 + least := by
    rcases (show least = 0 ∨ least = 1 by omega) with rfl | rfl
    · exact a5
    · exact a6
  by_cases b1 : sg tx p < 48 + least
  · rw [if_pos (hlow.mpr b1), if_neg (by omega)]
  · rw [if_neg (fun q => b1 (hlow.mp q))]
    by_cases b2 : sg tx p ≤ 57
    · rw [if_pos (a7.mpr b2), if_pos (by omega), nI_1]
      obtain ⟨f, rfl⟩ : ∃ f, fu = f + 3 := ⟨fu - 3, by omega⟩
      have step : ∀ m j q, j < 2 → q < 950 → ¬ sg tx p = 48 → l_Reader_readNumber_40 (f + 3) T (nI (sg tx p) - 48) (m + 1) (nI j) (nI q) = l_Reader_readNumber_40 (f + 3) T (nI (sg tx p) - 48) m (nI (j + 1)) (nI (if 48 ≤ sg tx q ∧ sg tx q ≤ 57 then q + 1 else q)) := by
        intro m j q hj hq h0
        have s2 := (sg_lt hT q).1
        obtain ⟨-, -, -, -, b5, -, -, b8, -⟩ := lt97 ⟨sg tx q, by omega⟩
        simp only at b5 b8
        show b_Reader_readNumber_40 (f + 3) T (nI (sg tx p) - 48) (l_Reader_readNumber_40 (f + 3) T (nI (sg tx p) - 48) m) (nI j) (nI q) = _
        unfold b_Reader_readNumber_40 j_Reader_readNumber_87
        rw [if_neg (show ¬ (2 : Int32) ≤ nI j from nI_ge (b := 2) hj (by decide)), if_neg (fun w => by have := a9.mp w; omega), tx_at hT (by omega), nI_1, nI_1]
        simp only [Option.bind_some]
        by_cases c1 : sg tx q < 48
        · rw [if_pos (b5.mpr c1), if_neg (by omega)]
        · rw [if_neg (fun w => c1 (b5.mp w))]
          by_cases c2 : 57 < sg tx q
          · rw [if_pos (b8.mpr c2), if_neg (by omega)]
          · rw [if_neg (fun w => c2 (b8.mp w)), if_pos (by omega)]
      have fin2 : ∀ m q, l_Reader_readNumber_40 (f + 3) T (nI (sg tx p) - 48) (m + 1) (nI 2) q = some (1, q) := by
        intro m q
        show b_Reader_readNumber_40 (f + 3) T (nI (sg tx p) - 48) _ (nI 2) q = _
        unfold b_Reader_readNumber_40
        rw [if_pos (by decide)]
      unfold nln
      by_cases h0 : sg tx p = 48
      · rw [if_pos h0]
        show b_Reader_readNumber_40 (f + 3) T (nI (sg tx p) - 48) _ (nI 0) (nI (p + 1)) = _
        unfold b_Reader_readNumber_40
        rw [if_neg (by decide), if_pos (a9.mpr (by omega))]
      · rw [if_neg h0]
        rw [show (0 : Int32) = nI 0 from rfl, step (f + 2) 0 (p + 1) (by omega) (by omega) h0]
        by_cases c1 : 48 ≤ sg tx (p + 1) ∧ sg tx (p + 1) ≤ 57
        · rw [if_pos c1, if_pos c1, step (f + 1) 1 (p + 1 + 1) (by omega) (by omega) h0, fin2]
          by_cases c2 : 48 ≤ sg tx (p + 2) ∧ sg tx (p + 2) ≤ 57
          · rw [if_pos c2, if_pos c2]
          · rw [if_neg c2, if_neg c2]
        · rw [if_neg c1, if_neg c1, step (f + 1) 1 (p + 1) (by omega) (by omega) h0, fin2, if_neg c1]
    · rw [if_neg (fun q => b2 (a7.mp q)), if_neg (by omega)]
theorem len_fin : ∀ k : Fin 1000, f_M_lengthOf (nI k) = some (nI (if k.val < 10 then 1 else if k.val < 100 then 2 else 3)) := by decide +kernel
/-- the number that the reference reads -/
theorem r_num (fu : Nat) (hfu : 64 < fu) {T : TxT} {G : RtT} {tx : List Nat} (hT : TX T G tx) {p : Nat} (hp : p < 900) : ∃ v, f_M_numberAt fu (nI p) G = some v ∧ ((¬ dg tx p ∨ dg tx (p + nln tx p)) → v = -1) ∧ (dg tx p → ¬ dg tx (p + nln tx p) → ∃ k, k < 1000 ∧ v = nI k ∧ f_M_lengthOf v = some (nI (nln tx p)) ∧ (k = 0 ↔ sg tx p = 48)) := by
  have sl : ∀ q, sg tx q < 127 := fun q => (sg_lt hT q).1
  obtain ⟨f, rfl⟩ : ∃ f, fu = f + 6 := ⟨fu - 6, by omega⟩
  have step : ∀ m k v, k < 4 → v < 100000 → l_M_numberAt_4 (f + 6) G (nI p) (m + 1) (nI v) (nI (p + k)) = if 48 ≤ sg tx (p + k) ∧ sg tx (p + k) ≤ 57 then l_M_numberAt_4 (f + 6) G (nI p) m (nI (10 * v + (sg tx (p + k) - 48))) (nI (p + k + 1)) else some (nI v, nI (p + k)) := by
    intro m k v hk hv
    have s2 := sl (p + k)
    show b_M_numberAt_4 (f + 6) G (nI p) (l_M_numberAt_4 (f + 6) G (nI p) m) (nI v) (nI (p + k)) = _
    unfold b_M_numberAt_4
    rw [show nI p + (4 : Int32) = nI (p + 4) from nI_add p 4, if_neg (nI_ge (by omega) (by omega)), rf_sign hT (by omega)]
    simp only [Option.bind_some]
    by_cases c1 : sg tx (p + k) < 48
    · rw [if_pos (show nI (sg tx (p + k)) < 48 from nI_lt (b := 48) c1 (by decide)), if_neg (by omega)]
    · rw [if_neg (show ¬ nI (sg tx (p + k)) < 48 from nI_nlt (b := 48) (by omega) (by omega))]
      by_cases c2 : 57 < sg tx (p + k)
      · rw [if_pos (show (57 : Int32) < nI (sg tx (p + k)) from nI_lt (a := 57) c2 (by omega)), if_neg (by omega)]
      · rw [if_neg (show ¬ (57 : Int32) < nI (sg tx (p + k)) from nI_nlt (a := 57) (by omega) (by decide)), if_pos (by omega), nI_1, show (10 : Int32) * nI v = nI (10 * v) from (Int32.ofNat_mul 10 v).symm, nI_add, show nI (10 * v + sg tx (p + k)) - (48 : Int32) = nI (10 * v + sg tx (p + k) - 48) from nI_sub (b := 48) (by omega)]
        congr 2
        omega
  have fin4 : ∀ m v, l_M_numberAt_4 (f + 6) G (nI p) (m + 1) v (nI (p + 4)) = some (v, nI (p + 4)) := by
    intro m v
    show b_M_numberAt_4 (f + 6) G (nI p) _ v (nI (p + 4)) = _
    unfold b_M_numberAt_4
    rw [show nI p + (4 : Int32) = nI (p + 4) from nI_add p 4, if_pos (nI_le (by omega) (by omega))]
  -- behind the loop
  have h51 : ∀ k x2, k ≤ 4 → j_M_numberAt_51 (f + 6) G (nI p) x2 (nI (p + k)) = if k = 0 ∨ k = 4 then some (-1) else if k = 1 then some x2 else if sg tx p = 48 then some (-1) else some x2 := by
    intro k x2 hk
    unfold j_M_numberAt_51
    rw [show nI p + (3 : Int32) = nI (p + 3) from nI_add p 3, nI_1, rf_sign hT (by omega)]
    simp only [Option.bind_some]
    have s2 := sl p
    by_cases e0 : k = 0
    · rw [if_pos (by rw [e0]; rfl), if_pos (Or.inl e0)]
    · rw [if_neg (fun q => e0 (by have := (nI_eq (by omega) (by omega)).mp q; omega))]
      by_cases e4 : k = 4
      · rw [if_pos (nI_lt (by omega) (by omega)), if_pos (Or.inr e4)]
      · rw [if_neg (nI_nlt (by omega) (by omega)), if_neg (c := k = 0 ∨ k = 4) (fun q => q.elim e0 e4)]
        by_cases e1 : k = 1
        · rw [if_pos (nI_le (by omega) (by omega)), if_pos e1]
        · rw [if_neg (nI_ge (by omega) (by omega)), if_neg e1]
          by_cases e48 : sg tx p = 48
          · rw [if_neg (fun q => q (by rw [e48]; rfl)), if_pos e48]
          · rw [if_pos (show ¬ nI (sg tx p) = (48 : Int32) from fun q => e48 ((nI_eq (b := 48) (by omega) (by decide)).mp q)), if_neg e48]
  unfold f_M_numberAt dg nln
  have l0 := step (f + 5) 0 0 (by omega) (by omega)
  rw [show l_M_numberAt_4 (f + 6) G (nI p) (f + 6) (0 : Int32) (nI p) = _ from l0]
  simp only [Nat.add_zero, Nat.mul_zero, Nat.zero_add]
  by_cases d0 : 48 ≤ sg tx p ∧ sg tx p ≤ 57
  · rw [if_pos d0, step (f + 4) 1 _ (by omega) (by omega)]
    by_cases d1 : 48 ≤ sg tx (p + 1) ∧ sg tx (p + 1) ≤ 57
    · rw [if_pos d1, show p + 1 + 1 = p + 2 from rfl, step (f + 3) 2 _ (by omega) (by omega)]
      by_cases e48 : sg tx p = 48
      · have : ∀ k x2, 2 ≤ k → k ≤ 4 → j_M_numberAt_51 (f + 6) G (nI p) x2 (nI (p + k)) = some (-1) := by
          intro k x2 h1 h2
          rw [h51 k x2 h2]
          by_cases e4 : k = 4
          · rw [if_pos (Or.inr e4)]
          · rw [if_neg (by omega), if_neg (by omega), if_pos e48]
        rw [if_pos e48]
        refine ⟨-1, ?_, fun _ => rfl, fun _ q => absurd d1 q⟩
        by_cases d2 : 48 ≤ sg tx (p + 2) ∧ sg tx (p + 2) ≤ 57
        · rw [if_pos d2, show p + 2 + 1 = p + 3 from rfl, step (f + 2) 3 _ (by omega) (by omega)]
          by_cases d3 : 48 ≤ sg tx (p + 3) ∧ sg tx (p + 3) ≤ 57
          · rw [if_pos d3, show p + 3 + 1 = p + 4 from rfl, fin4]
            exact this 4 _ (by omega) (by omega)
          · rw [if_neg d3]
            exact this 3 _ (by omega) (by omega)
        · rw [if_neg d2]
          exact this 2 _ (by omega) (by omega)
      · rw [if_neg e48, if_pos d1]
        by_cases d2 : 48 ≤ sg tx (p + 2) ∧ sg tx (p + 2) ≤ 57
        · rw [if_pos d2, if_pos d2, show p + 2 + 1 = p + 3 from rfl, step (f + 2) 3 _ (by omega) (by omega)]
          by_cases d3 : 48 ≤ sg tx (p + 3) ∧ sg tx (p + 3) ≤ 57
          · rw [if_pos d3, show p + 3 + 1 = p + 4 from rfl, fin4]
            refine ⟨-1, ?_, fun _ => rfl, fun _ q => absurd d3 q⟩
            show j_M_numberAt_51 (f + 6) G (nI p) _ (nI (p + 4)) = _
            rw [h51 4 _ (by omega), if_pos (Or.inr rfl)]
          · rw [if_neg d3]
            refine ⟨_, ?_, fun q => absurd q (by omega), fun _ _ => ⟨10 * (10 * (sg tx p - 48) + (sg tx (p + 1) - 48)) + (sg tx (p + 2) - 48), by omega, rfl, ?_, by omega⟩⟩
            · show j_M_numberAt_51 (f + 6) G (nI p) _ (nI (p + 3)) = _
              rw [h51 3 _ (by omega), if_neg (by omega), if_neg (by omega), if_neg e48]
            · rw [len_fin ⟨10 * (10 * (sg tx p - 48) + (sg tx (p + 1) - 48)) + (sg tx (p + 2) - 48), by omega⟩]
              simp only
              rw [if_neg (by omega), if_neg (by omega)]
        · rw [if_neg d2, if_neg d2]
          refine ⟨_, ?_, fun q => absurd q (by omega), fun _ _ => ⟨10 * (sg tx p - 48) + (sg tx (p + 1) - 48), by omega, rfl, ?_, by omega⟩⟩
          · show j_M_numberAt_51 (f + 6) G (nI p) _ (nI (p + 2)) = _
            rw [h51 2 _ (by omega), if_neg (by omega), if_neg (by omega), if_neg e48]
          · rw [len_fin ⟨10 * (sg tx p - 48) + (sg tx (p + 1) - 48), by omega⟩]
            simp only
            rw [if_neg (by omega), if_pos (by omega)]
    · rw [if_neg d1]
      have hl : (if sg tx p = 48 then 1 else if 48 ≤ sg tx (p + 1) ∧ sg tx (p + 1) ≤ 57 then (if 48 ≤ sg tx (p + 2) ∧ sg tx (p + 2) ≤ 57 then 3 else 2) else 1) = 1 := by
        by_cases e48 : sg tx p = 48
        · rw [if_pos e48]
        · rw [if_neg e48, if_neg d1]
      rw [hl]
      refine ⟨_, ?_, fun q => absurd q (by omega), fun _ _ => ⟨sg tx p - 48, by omega, rfl, ?_, by omega⟩⟩
      · show j_M_numberAt_51 (f + 6) G (nI p) _ (nI (p + 1)) = _
        rw [h51 1 _ (by omega), if_neg (by omega), if_pos rfl]
      · rw [len_fin ⟨sg tx p - 48, by omega⟩]
        simp only
        rw [if_pos (by omega)]
  · rw [if_neg d0]
    refine ⟨-1, ?_, fun _ => rfl, fun q => absurd q d0⟩
    show j_M_numberAt_51 (f + 6) G (nI p) _ (nI (p + 0)) = _
    rw [h51 0 _ (by omega), if_pos (Or.inl rfl)]
