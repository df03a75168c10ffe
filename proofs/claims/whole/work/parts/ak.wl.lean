/-! .. both sides -/
theorem psq_ok (tx : List Nat) (p : Nat) (h : psk tx p = true) : okp (psq tx p) := by
  unfold psk at h
  unfold psq
  by_cases h45 : sg tx p = 45
  · rw [if_pos h45]; exact Or.inl rfl
  · rw [if_neg h45]
    rw [decide_eq_false h45, Bool.false_or, decide_eq_true_eq] at h
    exact Or.inr ⟨_, by omega, rfl⟩
theorem c_rest (fu : Nat) (hfu : 64 < fu) {T : TxT} {G : RtT} {tx : List Nat} (hT : TX T G tx) (D : BdT) (hD : DR D) (hr : bd_rights D = 0) (hp : bd_passed D = -1) {p : Nat} (hp6 : p < 600) : ∃ D' r', ((f_Reader_readSide T D (nI p)).bind fun (r6, dg7, rg8) =>
      if r6 = (0 : Int32) then
        some ((0 : Int32), dg7, rg8)
      else
        (f_Reader_take (32 : Int32) T rg8).bind fun (r9, rg10) =>
        if r9 = (0 : Int32) then
          some ((0 : Int32), dg7, rg10)
        else
          (f_Reader_readRights fu T dg7 rg10).bind fun (r11, dg12, rg13) =>
          if r11 = (0 : Int32) then
            some ((0 : Int32), dg12, rg13)
          else
            (f_Reader_take (32 : Int32) T rg13).bind fun (r14, rg15) =>
            if r14 = (0 : Int32) then
              some ((0 : Int32), dg12, rg15)
            else
              (f_Reader_readPassed T dg12 rg15).bind fun (r16, dg17, rg18) =>
              if r16 = (0 : Int32) then
                some ((0 : Int32), dg17, rg18)
              else
                (f_Reader_take (32 : Int32) T rg18).bind fun (r19, rg20) =>
                if r19 = (0 : Int32) then
                  some ((0 : Int32), dg17, rg20)
                else
                  (f_Reader_readNumber fu (0 : Int32) T rg20).bind fun (r21, rg22) =>
                  if r21 = (0 : Int32) then
                    some ((0 : Int32), dg17, rg22)
                  else
                    (f_Reader_take (32 : Int32) T rg22).bind fun (r23, rg24) =>
                    if r23 = (0 : Int32) then
                      some ((0 : Int32), dg17, rg24)
                    else
                      (f_Reader_readNumber fu (1 : Int32) T rg24).bind fun (r25, rg26) =>
                      if r25 = (0 : Int32) then
                        some ((0 : Int32), dg17, rg26)
                      else
                        (f_Reader_take (0 : Int32) T rg26).bind fun (r27, rg28) =>
                        if r27 = (0 : Int32) then
                          some ((0 : Int32), dg17, rg28)
                        else
                          some ((1 : Int32), dg17, rg28)) = some (cond (rsk tx p) 1 0, D', r') ∧ (rsk tx p = true → DR D' ∧ bd_men D' = bd_men D ∧ bd_side D' = nI (if sg tx p = 98 then 1 else 0) ∧ bd_rights D' = nI (rgt tx (p + 2)).2 ∧ bd_passed D' = psq tx ((rgt tx (p + 2)).1 + 1)) := by
  have h32 : (32 : Int32) = nI 32 := rfl
  have hb := rgt_b tx (p + 2)
  have hpn := psn_b tx ((rgt tx (p + 2)).1 + 1)
  obtain ⟨D1, e1, e2, e3, e4, e5⟩ := c_side hT D (p := p) (by omega)
  rw [e1]
  unfold rsk
  simp only [Option.bind_some]
  cases k1 : sdk tx p with
  | false => simp only [cond_false]; rw [if_pos trivial]; exact ⟨_, _, rfl, fun q => by cases q⟩
  | true =>
    simp only [cond_true, Bool.true_and]
    rw [if_neg (show ¬ (1 : Int32) = 0 by decide), h32, tx_take hT (by omega) (by omega)]
    simp only [Option.bind_some]
    by_cases k2 : sg tx (p + 1) = 32
    · rw [if_pos k2, decide_eq_true k2]
      simp only [Bool.true_and]
      rw [if_neg (show ¬ (1 : Int32) = 0 by decide), show p + 1 + 1 = p + 2 from rfl]
      obtain ⟨D2, f1, f2, f3, f4, f5⟩ := c_rights fu hfu hT D1 (p := p + 2) (by omega) (e4.trans hr)
      rw [f1]
      simp only [Option.bind_some]
      cases k3 : rgk tx (p + 2) with
      | false => simp only [cond_false]; rw [if_pos trivial]; exact ⟨_, _, rfl, fun q => by cases q⟩
      | true =>
        simp only [cond_true, Bool.true_and]
        rw [if_neg (show ¬ (1 : Int32) = 0 by decide), tx_take hT (by omega) (by omega)]
        simp only [Option.bind_some]
        by_cases k4 : sg tx (rgt tx (p + 2)).1 = 32
        · rw [if_pos k4, decide_eq_true k4]
          simp only [Bool.true_and]
          rw [if_neg (show ¬ (1 : Int32) = 0 by decide)]
          obtain ⟨D3, r3, g1, g2, g3, g4, g5⟩ := c_passed hT D2 (p := (rgt tx (p + 2)).1 + 1) (by omega) (f5.trans (e5.trans hp))
          rw [g1]
          simp only [Option.bind_some]
          cases k5 : psk tx ((rgt tx (p + 2)).1 + 1) with
          | false => simp only [cond_false]; rw [if_pos trivial]; exact ⟨_, _, rfl, fun q => by cases q⟩
          | true =>
            obtain ⟨g6, g7⟩ := g5 k5
            simp only [cond_true, Bool.true_and]
            rw [if_neg (show ¬ (1 : Int32) = 0 by decide), g6]
            have fin : DR D3 ∧ bd_men D3 = bd_men D ∧ bd_side D3 = nI (if sg tx p = 98 then 1 else 0) ∧ bd_rights D3 = nI (rgt tx (p + 2)).2 ∧ bd_passed D3 = psq tx ((rgt tx (p + 2)).1 + 1) :=
              ⟨dms_DR g2 (dms_DR f2 (dms_DR e2 hD)), g2.1.trans (f2.1.trans e2.1), g3.trans (f3.trans e3), g4.trans f4, g7⟩
            generalize psn tx ((rgt tx (p + 2)).1 + 1) = p3 at hpn ⊢
            have n1 := nln_b tx (p3 + 1)
            have n2 := nln_b tx (p3 + 1 + nln tx (p3 + 1) + 1)
            unfold tlk
            rw [tx_take hT (by omega) (by omega)]
            simp only [Option.bind_some]
            by_cases k6 : sg tx p3 = 32
            · rw [if_pos k6, decide_eq_true k6]
              simp only [Bool.true_and]
              rw [if_neg (show ¬ (1 : Int32) = 0 by decide), show (0 : Int32) = nI 0 from rfl, c_num fu hfu hT 0 (by omega) (p := p3 + 1) (by omega)]
              simp only [Option.bind_some, Nat.add_zero]
              by_cases k7 : 48 ≤ sg tx (p3 + 1) ∧ sg tx (p3 + 1) ≤ 57
              · rw [if_pos k7, decide_eq_true k7]
                simp only [Bool.true_and]
                rw [if_neg (show ¬ (1 : Int32) = nI 0 by decide), tx_take hT (by omega) (by omega)]
                simp only [Option.bind_some]
                by_cases k8 : sg tx (p3 + 1 + nln tx (p3 + 1)) = 32
                · rw [if_pos k8, decide_eq_true k8]
                  simp only [Bool.true_and]
                  rw [if_neg (show ¬ (1 : Int32) = nI 0 by decide), show (1 : Int32) = nI 1 from rfl, c_num fu hfu hT 1 (by omega) (p := p3 + 1 + nln tx (p3 + 1) + 1) (by omega)]
                  simp only [Option.bind_some]
                  by_cases k9 : 49 ≤ sg tx (p3 + 1 + nln tx (p3 + 1) + 1) ∧ sg tx (p3 + 1 + nln tx (p3 + 1) + 1) ≤ 57
                  · rw [if_pos k9, decide_eq_true k9]
                    simp only [Bool.true_and]
                    rw [if_neg (show ¬ (1 : Int32) = nI 0 by decide), tx_take hT (by omega) (by omega)]
                    simp only [Option.bind_some]
                    by_cases k10 : sg tx (p3 + 1 + nln tx (p3 + 1) + 1 + nln tx (p3 + 1 + nln tx (p3 + 1) + 1)) = 0
                    · rw [if_pos k10, decide_eq_true k10]
                      simp only
                      rw [if_neg (show ¬ (1 : Int32) = nI 0 by decide)]
                      exact ⟨_, _, rfl, fun _ => fin⟩
                    · rw [if_neg k10, decide_eq_false k10]
                      simp only
                      rw [if_pos (show (0 : Int32) = nI 0 from rfl)]
                      exact ⟨_, _, rfl, fun q => by cases q⟩
                  · rw [if_neg k9, decide_eq_false k9]
                    simp only [Bool.false_and]
                    rw [if_pos (show (0 : Int32) = nI 0 from rfl)]
                    exact ⟨_, _, rfl, fun q => by cases q⟩
                · rw [if_neg k8, decide_eq_false k8]
                  simp only [Bool.false_and]
                  rw [if_pos (show (0 : Int32) = nI 0 from rfl)]
                  exact ⟨_, _, rfl, fun q => by cases q⟩
              · rw [if_neg k7, decide_eq_false k7]
                simp only [Bool.false_and]
                rw [if_pos (show (0 : Int32) = nI 0 from rfl)]
                exact ⟨_, _, rfl, fun q => by cases q⟩
            · rw [if_neg k6, decide_eq_false k6]
              simp only [Bool.false_and]
              rw [if_pos trivial]
              exact ⟨_, _, rfl, fun q => by cases q⟩
        · rw [if_neg k4, decide_eq_false k4]
          simp only [Bool.false_and]
          rw [if_pos trivial]
          exact ⟨_, _, rfl, fun q => by cases q⟩
    · rw [if_neg k2, decide_eq_false k2]
      simp only [Bool.false_and]
      rw [if_pos trivial]
      exact ⟨_, _, rfl, fun q => by cases q⟩
theorem well_sim (fu : Nat) (hfu : 64 < fu) {T : TxT} {G : RtT} {tx : List Nat} (hT : TX T G tx) (D : BdT) (Q : PoT) (N : NuT) (hD : DR D) (hz : ∀ x, x < 64 → bd_men D x = 0) (hr : bd_rights D = 0) (hp : bd_passed D = -1) (ho : oq (po_men Q)) : ∃ (ok : Bool) (D' : BdT) (r' t : Int32) (Q1 : PoT), f_Reader_isWell fu T D 0 = some (cond ok 1 0, D', r') ∧ f_M_readMen fu G Q = some (t, Q1) ∧ oq (po_men Q1) ∧ ((t < 0 ∧ ok = false) ∨ (¬ t < 0 ∧ ∃ Q2 N2, f_M_readRest fu t G Q1 N = some (cond ok 1 0, Q2, N2) ∧ oq (po_men Q2) ∧ (ok = true → ∃ c ρ, c < 2 ∧ ρ < 16 ∧ DR D' ∧ bd_side D' = nI c ∧ po_side Q2 = nI c ∧ bd_rights D' = nI ρ ∧ po_rights Q2 = nI ρ ∧ okp (bd_passed D') ∧ po_passed Q2 = bd_passed D' ∧ ∀ x, x < 64 → po_men Q2 x = bd_men D' x))) := by
  obtain ⟨ok, D1, r1, Q1, t, a1, a2, a3, a4, a5, a6, a7⟩ := men_sim fu hfu hT 7 0 fu fu D Q (by omega) (by omega) (by omega) (by omega) hD (fun x hx => ⟨fun q => by omega, fun _ => hz x hx⟩) ho
  unfold f_Reader_isWell f_Reader_readMen f_M_readMen
  rw [show l_Reader_readMen_3 fu T fu (7 : Int32) D (0 : Int32) = _ from a1, show l_M_readMen_5 fu G fu (0 : Int32) (7 : Int32) Q = _ from a2]
  simp only [Option.bind_some]
  cases ok with
  | false =>
    simp only [cond_false]
    rw [if_pos trivial]
    exact ⟨false, _, _, t, Q1, rfl, rfl, a4, Or.inl ⟨by rw [a6 rfl]; decide, rfl⟩⟩
  | true =>
    obtain ⟨p', b1, b2, b3, b4, b5⟩ := a7 rfl
    simp only [cond_true]
    rw [if_neg (show ¬ (1 : Int32) = 0 by decide), b1, show (32 : Int32) = nI 32 from rfl, tx_take hT (by omega) (by omega)]
    simp only [Option.bind_some]
    by_cases h32 : sg tx p' = 32
    · obtain ⟨c1, c2⟩ := b4 h32
      rw [if_pos h32]
      simp only
      rw [if_neg (show ¬ (1 : Int32) = 0 by decide)]
      have hr1 : bd_rights D1 = 0 := by rw [← hr]; exact congrArg (fun q => q.2.2.1) a3
      have hp1 : bd_passed D1 = -1 := by rw [← hp]; exact congrArg (fun q => q.2.2.2.1) a3
      obtain ⟨D2, r2, d1, d2⟩ := c_rest fu hfu hT D1 b3 hr1 hp1 (p := p' + 1) (by omega)
      obtain ⟨Q2, N2, f1, f2, f3⟩ := r_rest fu hfu hT Q1 N (p := p') (by omega)
      refine ⟨rsk tx (p' + 1), D2, r2, t, Q1, d1, rfl, a4, Or.inr ⟨by rw [c1]; exact nI_pos (by omega), Q2, N2, by rw [c1]; exact f1, by rw [f2]; exact a4, fun h => ?_⟩⟩
      obtain ⟨g1, g2, g3, g4, g5⟩ := d2 h
      obtain ⟨k1, k2, k3⟩ := f3 h
      have hb := rgt_b tx (p' + 3)
      have hpk : psk tx ((rgt tx (p' + 1 + 2)).1 + 1) = true := by
        unfold rsk at h
        simp only [Bool.and_eq_true] at h
        exact h.2.2.2.2.1
      refine ⟨if sg tx (p' + 1) = 98 then 1 else 0, (rgt tx (p' + 3)).2, by split <;> omega, hb.2, g1, g3, k1, g4, k2, by rw [g5]; exact psq_ok tx _ hpk, by rw [k3, g5], fun x hx => ?_⟩
      rw [f2, g2]
      exact c2 x hx
    · rw [if_neg h32]
      simp only
      rw [if_pos trivial]
      exact ⟨false, _, _, t, Q1, rfl, rfl, a4, Or.inl ⟨by rw [b5 h32]; decide, rfl⟩⟩
