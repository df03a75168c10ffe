/-! A POSITION'S TEXT IS WELL WRITTEN OR NOT: on both sides alike -/
def tlk (tx : List Nat) (p : Nat) : Bool := decide (sg tx p = 32) && (decide (48 ≤ sg tx (p + 1) ∧ sg tx (p + 1) ≤ 57) && (decide (sg tx (p + 1 + nln tx (p + 1)) = 32) && (decide (49 ≤ sg tx (p + 1 + nln tx (p + 1) + 1) ∧ sg tx (p + 1 + nln tx (p + 1) + 1) ≤ 57) && decide (sg tx (p + 1 + nln tx (p + 1) + 1 + nln tx (p + 1 + nln tx (p + 1) + 1)) = 0))))
def rsk (tx : List Nat) (p : Nat) : Bool := sdk tx p && (decide (sg tx (p + 1) = 32) && (rgk tx (p + 2) && (decide (sg tx (rgt tx (p + 2)).1 = 32) && (psk tx ((rgt tx (p + 2)).1 + 1) && tlk tx (psn tx ((rgt tx (p + 2)).1 + 1))))))
theorem nln_b (tx : List Nat) (p : Nat) : 1 ≤ nln tx p ∧ nln tx p ≤ 3 := by
  unfold nln
  split
  · omega
  · split
    · split <;> omega
    · omega
theorem nln_last (tx : List Nat) (p : Nat) (h : dg tx p) : dg tx (p + nln tx p - 1) := by
  unfold nln dg at *
  by_cases h0 : sg tx p = 48
  · rw [if_pos h0]; exact h
  · rw [if_neg h0]
    by_cases h1 : 48 ≤ sg tx (p + 1) ∧ sg tx (p + 1) ≤ 57
    · rw [if_pos h1]
      by_cases h2 : 48 ≤ sg tx (p + 2) ∧ sg tx (p + 2) ≤ 57
      · rw [if_pos h2]; exact h2
      · rw [if_neg h2]; exact h1
    · rw [if_neg h1]; exact h
theorem r_tail (fu : Nat) (hfu : 64 < fu) {T : TxT} {G : RtT} {tx : List Nat} (hT : TX T G tx) (Q : PoT) (N : NuT) {p : Nat} (hp : p < 800) : ∃ ck N', j_M_readRest_248 fu G Q N (nI p) = some (cond (tlk tx p) 1 0, (po_men Q, po_side Q, po_rights Q, po_passed Q, ck), N') := by
  have sl : ∀ q, sg tx q < 127 := fun q => (sg_lt hT q).1
  have n1 := nln_b tx (p + 1)
  have n2 := nln_b tx (p + 1 + nln tx (p + 1) + 1)
  obtain ⟨v1, e1, e2, e3⟩ := r_num fu hfu hT (p := p + 1) (by omega)
  obtain ⟨v2, f1, f2, f3⟩ := r_num fu hfu hT (p := p + 1 + nln tx (p + 1) + 1) (by omega)
  unfold j_M_readRest_248
  rw [rf_sign hT (by omega), nI_1, e1]
  simp only [Option.bind_some]
  unfold tlk
  have s0 := sl p
  by_cases h32 : sg tx p = 32
  · rw [if_pos (by rw [h32]; rfl), decide_eq_true h32, Bool.true_and]
    by_cases d1 : dg tx (p + 1)
    · have d1' : 48 ≤ sg tx (p + 1) ∧ sg tx (p + 1) ≤ 57 := d1
      rw [decide_eq_true d1', Bool.true_and]
      by_cases b1 : dg tx (p + 1 + nln tx (p + 1))
      · rw [e2 (Or.inr b1), if_neg (by decide)]
        have : ¬ sg tx (p + 1 + nln tx (p + 1)) = 32 := by unfold dg at b1; omega
        rw [decide_eq_false this, Bool.false_and]
        exact ⟨_, _, rfl⟩
      · obtain ⟨k, k1, k2, k3, k4⟩ := e3 d1 b1
        rw [k2] at k3 ⊢
        rw [if_pos (nI_pos' (by omega)), k3]
        simp only [Option.bind_some]
        rw [nI_add, rf_sign hT (by omega)]
        simp only [Option.bind_some]
        have s1 := sl (p + 1 + nln tx (p + 1))
        by_cases h33 : sg tx (p + 1 + nln tx (p + 1)) = 32
        · rw [if_pos (by rw [h33]; rfl), decide_eq_true h33, Bool.true_and, nI_1, f1]
          simp only [Option.bind_some]
          by_cases d2 : dg tx (p + 1 + nln tx (p + 1) + 1)
          · by_cases b2 : dg tx (p + 1 + nln tx (p + 1) + 1 + nln tx (p + 1 + nln tx (p + 1) + 1))
            · rw [f2 (Or.inr b2), if_pos (by decide)]
              have : ¬ sg tx (p + 1 + nln tx (p + 1) + 1 + nln tx (p + 1 + nln tx (p + 1) + 1)) = 0 := by unfold dg at b2; omega
              rw [decide_eq_false this, Bool.and_false]
              exact ⟨_, _, rfl⟩
            · obtain ⟨k', g1, g2, g3, g4⟩ := f3 d2 b2
              rw [g2] at g3 ⊢
              have d2' : 48 ≤ sg tx (p + 1 + nln tx (p + 1) + 1) ∧ sg tx (p + 1 + nln tx (p + 1) + 1) ≤ 57 := d2
              by_cases z : k' = 0
              · rw [if_pos (by rw [z]; decide), decide_eq_false (by have := g4.mp z; omega)]
                exact ⟨_, _, rfl⟩
              · rw [if_neg (nI_nle (by omega) (by omega)), g3]
                simp only [Option.bind_some]
                rw [nI_add, hT.2.2.1]
                have hne : ¬ sg tx (p + 1 + nln tx (p + 1) + 1) = 48 := fun q => z (g4.mpr q)
                rw [decide_eq_true (show 49 ≤ sg tx (p + 1 + nln tx (p + 1) + 1) ∧ sg tx (p + 1 + nln tx (p + 1) + 1) ≤ 57 by omega), Bool.true_and]
                have hlast := nln_last tx _ d2
                have hz := (sg_lt hT (p + 1 + nln tx (p + 1) + 1 + nln tx (p + 1 + nln tx (p + 1) + 1))).2
                have hz' := (sg_lt hT (p + 1 + nln tx (p + 1) + 1 + nln tx (p + 1 + nln tx (p + 1) + 1) - 1)).2
                have h100 := hT.1
                by_cases hend : p + 1 + nln tx (p + 1) + 1 + nln tx (p + 1 + nln tx (p + 1) + 1) = tx.length
                · rw [if_neg (fun q => q (by rw [hend])), decide_eq_true (hz.mpr (by omega))]
                  exact ⟨_, _, rfl⟩
                · rw [if_pos (fun q => hend ((nI_eq (by omega) (by omega)).mp q)), decide_eq_false]
                  · exact ⟨_, _, rfl⟩
                  · intro q
                    have h1 := hz.mp q
                    have h2 : ¬ sg tx (p + 1 + nln tx (p + 1) + 1 + nln tx (p + 1 + nln tx (p + 1) + 1) - 1) = 0 := by unfold dg at hlast; omega
                    have h3 : ¬ tx.length ≤ p + 1 + nln tx (p + 1) + 1 + nln tx (p + 1 + nln tx (p + 1) + 1) - 1 := fun w => h2 (hz'.mpr w)
                    omega
          · rw [f2 (Or.inl d2), if_pos (by decide)]
            have : ¬ (49 ≤ sg tx (p + 1 + nln tx (p + 1) + 1) ∧ sg tx (p + 1 + nln tx (p + 1) + 1) ≤ 57) := by unfold dg at d2; omega
            rw [decide_eq_false this, Bool.false_and]
            exact ⟨_, _, rfl⟩
        · rw [if_neg (show ¬ nI (sg tx (p + 1 + nln tx (p + 1))) = (32 : Int32) from fun q => h33 ((nI_eq (b := 32) (by omega) (by decide)).mp q)), decide_eq_false h33, Bool.false_and]
          exact ⟨_, _, rfl⟩
    · have d1' : ¬ (48 ≤ sg tx (p + 1) ∧ sg tx (p + 1) ≤ 57) := d1
      rw [e2 (Or.inl d1), if_neg (by decide), decide_eq_false d1', Bool.false_and]
      exact ⟨_, _, rfl⟩
  · rw [if_neg (show ¬ nI (sg tx p) = (32 : Int32) from fun q => h32 ((nI_eq (b := 32) (by omega) (by decide)).mp q)), decide_eq_false h32, Bool.false_and]
    exact ⟨_, _, rfl⟩
theorem psn_b (tx : List Nat) (p : Nat) : psn tx p ≤ p + 2 := by
  unfold psn
  split <;> omega
theorem r_isOn {a b : Nat} (ha : a < 127) (hb : b < 127) : f_M_isOn (nI a - 97) (nI b - 49) = some (cond (decide ((97 ≤ a ∧ a ≤ 104) ∧ (49 ≤ b ∧ b ≤ 56))) 1 0) := by
  have h1 : ∀ c : Fin 128, (nI c - 97 < 0 ↔ c.val < 97) ∧ (nI c - 97 < 8 ↔ c.val ≤ 104) ∧ ((8 : Int32) ≤ nI c - 97 ↔ 104 < c.val) ∧ (nI c - 49 < 0 ↔ c.val < 49) ∧ (nI c - 49 < 8 ↔ c.val ≤ 56) ∧ ((8 : Int32) ≤ nI c - 49 ↔ 56 < c.val) := by decide +kernel
  obtain ⟨a1, a2, a3, -, -, -⟩ := h1 ⟨a, by omega⟩
  obtain ⟨-, -, -, b1, b2, b3⟩ := h1 ⟨b, by omega⟩
  simp only at a1 a2 a3 b1 b2 b3
  unfold f_M_isOn
  by_cases c1 : a < 97
  · rw [if_pos (a1.mpr c1), decide_eq_false (by omega)]; rfl
  · rw [if_neg (fun q => c1 (a1.mp q))]
    by_cases c2 : 104 < a
    · rw [if_pos (a3.mpr c2), decide_eq_false (by omega)]; rfl
    · rw [if_neg (fun q => c2 (a3.mp q))]
      by_cases c3 : b < 49
      · rw [if_pos (b1.mpr c3), decide_eq_false (by omega)]; rfl
      · rw [if_neg (fun q => c3 (b1.mp q))]
        by_cases c4 : 56 < b
        · rw [if_pos (b3.mpr c4), decide_eq_false (by omega)]; rfl
        · rw [if_neg (fun q => c4 (b3.mp q)), decide_eq_true (by omega)]; rfl
theorem r_162 (fu : Nat) (hfu : 64 < fu) {T : TxT} {G : RtT} {tx : List Nat} (hT : TX T G tx) (Q : PoT) (N : NuT) {p : Nat} (hp : p < 700) : ∃ Q' N', j_M_readRest_162 fu G Q N (nI p) = some (cond (decide (sg tx p = 32) && (psk tx (p + 1) && tlk tx (psn tx (p + 1)))) 1 0, Q', N') ∧ po_men Q' = po_men Q ∧ po_side Q' = po_side Q ∧ po_rights Q' = po_rights Q ∧ (psk tx (p + 1) = true → decide (sg tx p = 32) = true → po_passed Q' = psq tx (p + 1)) := by
  have sl : ∀ q, sg tx q < 127 := fun q => (sg_lt hT q).1
  have hpn := psn_b tx (p + 1)
  have s0 := sl p
  have s1 := sl (p + 1)
  have s2 := sl (p + 1 + 1)
  unfold j_M_readRest_162
  rw [rf_sign hT (by omega), nI_1, nI_1, rf_sign hT (by omega), rf_sign hT (by omega)]
  simp only [Option.bind_some]
  by_cases h32 : sg tx p = 32
  · rw [if_pos (by rw [h32]; rfl), decide_eq_true h32, Bool.true_and]
    unfold psk psn psq at *
    by_cases h45 : sg tx (p + 1) = 45
    · rw [if_neg (fun q => q (by rw [h45]; rfl)), decide_eq_true h45, Bool.true_or, Bool.true_and, if_pos h45]
      obtain ⟨ck, N', e⟩ := r_tail fu hfu hT (po_men Q, po_side Q, po_rights Q, -1, po_clock Q) N (p := p + 1 + 1) (by omega)
      rw [e]
      exact ⟨_, _, rfl, rfl, rfl, rfl, fun _ _ => by rw [if_pos h45]⟩
    · rw [if_pos (show ¬ nI (sg tx (p + 1)) = (45 : Int32) from fun q => h45 ((nI_eq (b := 45) (by omega) (by decide)).mp q)), decide_eq_false h45, Bool.false_or, if_neg h45, r_isOn s1 s2]
      simp only [Option.bind_some]
      by_cases ho : (97 ≤ sg tx (p + 1) ∧ sg tx (p + 1) ≤ 104) ∧ (49 ≤ sg tx (p + 1 + 1) ∧ sg tx (p + 1 + 1) ≤ 56)
      · rw [decide_eq_true ho, Bool.true_and, if_pos (by decide), show nI (p + 1) + (2 : Int32) = nI (p + 1 + 2) from nI_add (p + 1) 2]
        obtain ⟨ck, N', e⟩ := r_tail fu hfu hT (po_men Q, po_side Q, po_rights Q, ((8 : Int32) * (nI (sg tx (p + 1 + 1)) - 49)) + (nI (sg tx (p + 1)) - 97), po_clock Q) N (p := p + 1 + 2) (by omega)
        rw [e]
        refine ⟨_, _, rfl, rfl, rfl, rfl, fun _ _ => ?_⟩
        rw [if_neg h45]
        show ((8 : Int32) * (nI (sg tx (p + 1 + 1)) - 49)) + (nI (sg tx (p + 1)) - 97) = _
        rw [show nI (sg tx (p + 1)) - (97 : Int32) = nI (sg tx (p + 1) - 97) from nI_sub (b := 97) (by omega), show nI (sg tx (p + 1 + 1)) - (49 : Int32) = nI (sg tx (p + 1 + 1) - 49) from nI_sub (b := 49) (by omega), mul8, nI_add, Nat.add_comm]
      · rw [decide_eq_false ho, if_neg (by decide)]
        exact ⟨_, _, rfl, rfl, rfl, rfl, fun q => by cases q⟩
  · rw [if_neg (show ¬ nI (sg tx p) = (32 : Int32) from fun q => h32 ((nI_eq (b := 32) (by omega) (by decide)).mp q)), decide_eq_false h32]
    exact ⟨_, _, rfl, rfl, rfl, rfl, fun _ q => by cases q⟩
theorem r_rest (fu : Nat) (hfu : 64 < fu) {T : TxT} {G : RtT} {tx : List Nat} (hT : TX T G tx) (Q : PoT) (N : NuT) {p : Nat} (hp : p < 600) : ∃ Q' N', f_M_readRest fu (nI p) G Q N = some (cond (rsk tx (p + 1)) 1 0, Q', N') ∧ po_men Q' = po_men Q ∧ (rsk tx (p + 1) = true → po_side Q' = nI (if sg tx (p + 1) = 98 then 1 else 0) ∧ po_rights Q' = nI (rgt tx (p + 3)).2 ∧ po_passed Q' = psq tx ((rgt tx (p + 3)).1 + 1)) := by
  have sl : ∀ q, sg tx q < 127 := fun q => (sg_lt hT q).1
  have hb := rgt_b tx (p + 3)
  have s1 := sl (p + 1)
  have s2 := sl (p + 2)
  have s3 := sl (p + 3)
  unfold f_M_readRest
  rw [nI_1, rf_sign hT (by omega)]
  simp only [Option.bind_some]
  have h48 : ∀ c : Nat, c = (if sg tx (p + 1) = 98 then 1 else 0) → sdk tx (p + 1) = true → sg tx (p + 2) = 32 → ∃ Q' N', j_M_readRest_48 fu G Q N (nI (p + 1)) (nI c) = some (cond (rsk tx (p + 1)) 1 0, Q', N') ∧ po_men Q' = po_men Q ∧ (rsk tx (p + 1) = true → po_side Q' = nI (if sg tx (p + 1) = 98 then 1 else 0) ∧ po_rights Q' = nI (rgt tx (p + 3)).2 ∧ po_passed Q' = psq tx ((rgt tx (p + 3)).1 + 1)) := by
    intro c hc hs h32
    unfold j_M_readRest_48 rsk
    rw [hs, decide_eq_true h32, Bool.true_and, Bool.true_and, show nI (p + 1) + (2 : Int32) = nI (p + 3) from nI_add (p + 1) 2, rf_sign hT (by omega), show p + 1 + 2 = p + 3 from rfl]
    simp only [Option.bind_some]
    have go : ∀ (Q1 : PoT), po_men Q1 = po_men Q → po_side Q1 = nI c → po_rights Q1 = nI (rgt tx (p + 3)).2 → rgk tx (p + 3) = true → ∃ Q' N', j_M_readRest_162 fu G Q1 N (nI (rgt tx (p + 3)).1) = some (cond (rgk tx (p + 3) && (decide (sg tx (rgt tx (p + 3)).1 = 32) && (psk tx ((rgt tx (p + 3)).1 + 1) && tlk tx (psn tx ((rgt tx (p + 3)).1 + 1))))) 1 0, Q', N') ∧ po_men Q' = po_men Q ∧ ((rgk tx (p + 3) && (decide (sg tx (rgt tx (p + 3)).1 = 32) && (psk tx ((rgt tx (p + 3)).1 + 1) && tlk tx (psn tx ((rgt tx (p + 3)).1 + 1))))) = true → po_side Q' = nI (if sg tx (p + 1) = 98 then 1 else 0) ∧ po_rights Q' = nI (rgt tx (p + 3)).2 ∧ po_passed Q' = psq tx ((rgt tx (p + 3)).1 + 1)) := by
      intro Q1 g1 g2 g3 g4
      obtain ⟨Q', N', e1, e2, e3, e4, e5⟩ := r_162 fu hfu hT Q1 N (p := (rgt tx (p + 3)).1) (by omega)
      rw [g4, Bool.true_and]
      refine ⟨Q', N', e1, e2.trans g1, fun h => ?_⟩
      rw [Bool.and_eq_true, Bool.and_eq_true] at h
      exact ⟨by rw [e3, g2, hc], e4.trans g3, e5 h.2.1 h.1⟩
    by_cases h45 : sg tx (p + 3) = 45
    · rw [if_neg (fun q => q (by rw [h45]; rfl)), nI_1]
      have e : rgt tx (p + 3) = (p + 3 + 1, 0) := by unfold rgt; rw [if_pos h45]
      have := go (po_men Q, nI c, 0, po_passed Q, po_clock Q) rfl rfl (by rw [e]; rfl) (by unfold rgk; rw [decide_eq_true h45]; rfl)
      rw [e] at this ⊢
      exact this
    · rw [if_pos (show ¬ nI (sg tx (p + 3)) = (45 : Int32) from fun q => h45 ((nI_eq (b := 45) (by omega) (by decide)).mp q))]
      have e : rgt tx (p + 3) = rlp tx 4 0 (p + 3) 0 := by unfold rgt; rw [if_neg h45]
      rw [show l_M_readRest_79 fu G N fu (nI (p + 3)) (0 : Int32) (po_men Q, nI c, (0 : Int32), po_passed Q, po_clock Q) = _ from r_79 fu N hT 4 fu 0 (p + 3) 0 (po_men Q, nI c, (0 : Int32), po_passed Q, po_clock Q) (by omega) (by omega) (by omega) (by omega) rfl]
      simp only [Option.bind_some]
      unfold j_M_readRest_153
      rw [← e]
      by_cases h0 : (rgt tx (p + 3)).2 = 0
      · rw [if_neg (fun q => q (by show nI _ = 0; rw [h0]; rfl))]
        have hk : rgk tx (p + 3) = false := by unfold rgk; rw [decide_eq_false h45, ← e, decide_eq_false (fun q => q h0)]; rfl
        rw [hk, Bool.false_and]
        exact ⟨_, _, rfl, rfl, fun q => by cases q⟩
      · rw [if_pos (show ¬ nI (rgt tx (p + 3)).2 = (0 : Int32) from nI_ne0 (by omega) (by omega))]
        exact go (po_men Q, nI c, nI (rgt tx (p + 3)).2, po_passed Q, po_clock Q) rfl rfl rfl (by unfold rgk; rw [decide_eq_false h45, ← e, decide_eq_true h0]; rfl)
  have h22 : sdk tx (p + 1) = true → ∃ Q' N', j_M_readRest_22 fu G Q N (nI (p + 1)) (nI (sg tx (p + 1))) = some (cond (rsk tx (p + 1)) 1 0, Q', N') ∧ po_men Q' = po_men Q ∧ (rsk tx (p + 1) = true → po_side Q' = nI (if sg tx (p + 1) = 98 then 1 else 0) ∧ po_rights Q' = nI (rgt tx (p + 3)).2 ∧ po_passed Q' = psq tx ((rgt tx (p + 3)).1 + 1)) := by
    intro hs
    unfold j_M_readRest_22
    rw [nI_1, rf_sign hT (by omega), show p + 1 + 1 = p + 2 from rfl]
    simp only [Option.bind_some]
    by_cases h32 : sg tx (p + 2) = 32
    · rw [if_pos (by rw [h32]; rfl)]
      by_cases hw : sg tx (p + 1) = 119
      · rw [if_neg (fun q => q (by rw [hw]; rfl))]
        exact h48 0 (by rw [if_neg (by omega)]) hs h32
      · rw [if_pos (show ¬ nI (sg tx (p + 1)) = (119 : Int32) from fun q => hw ((nI_eq (b := 119) (by omega) (by decide)).mp q))]
        refine h48 1 ?_ hs h32
        unfold sdk at hs
        rw [Bool.or_eq_true, decide_eq_true_eq, decide_eq_true_eq] at hs
        rw [if_pos (by omega)]
    · rw [if_neg (show ¬ nI (sg tx (p + 2)) = (32 : Int32) from fun q => h32 ((nI_eq (b := 32) (by omega) (by decide)).mp q))]
      have hk : rsk tx (p + 1) = false := by
        unfold rsk
        rw [show p + 1 + 1 = p + 2 from rfl, decide_eq_false h32, Bool.false_and, Bool.and_false]
      rw [hk]
      exact ⟨_, _, rfl, rfl, fun q => by cases q⟩
  by_cases hw : sg tx (p + 1) = 119
  · rw [if_pos (by rw [hw]; rfl)]
    exact h22 (by unfold sdk; rw [decide_eq_true hw, Bool.or_true])
  · rw [if_neg (show ¬ nI (sg tx (p + 1)) = (119 : Int32) from fun q => hw ((nI_eq (b := 119) (by omega) (by decide)).mp q))]
    by_cases hb : sg tx (p + 1) = 98
    · rw [if_neg (fun q => q (by rw [hb]; rfl))]
      exact h22 (by unfold sdk; rw [decide_eq_true hb]; rfl)
    · rw [if_pos (show ¬ nI (sg tx (p + 1)) = (98 : Int32) from fun q => hb ((nI_eq (b := 98) (by omega) (by decide)).mp q))]
      have hk : rsk tx (p + 1) = false := by
        unfold rsk sdk
        rw [decide_eq_false hb, decide_eq_false hw]; rfl
      rw [hk]
      exact ⟨_, _, rfl, rfl, fun q => by cases q⟩
