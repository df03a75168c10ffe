/-! CASTLING -/
theorem lg0 (x : Int64) : lg_cmp x 0 = 0 ↔ x = 0 := by
  unfold lg_cmp
  by_cases h1 : x > 0
  · rw [if_pos h1]
    exact ⟨fun h => absurd h (by decide), fun h => absurd h1 (by rw [h]; decide)⟩
  · rw [if_neg h1]
    by_cases h2 : x = 0
    · rw [if_pos h2]; exact ⟨fun _ => h2, fun _ => rfl⟩
    · rw [if_neg h2]; exact ⟨fun h => absurd h (by decide), fun h => absurd h h2⟩
theorem bt_z (x : Int64) : x = 0 ↔ ∀ i, i < 64 → bt x i = false :=
  ⟨fun h i _ => by rw [h, bt_0], fun h => bt_ext (fun i hi => by rw [h i hi, bt_0])⟩
theorem shr_fin : ∀ k : Fin 64, ((nI k).toInt64 &&& 63).toBitVec.smod 64 = BitVec.ofNat 64 k := by decide +kernel
theorem bt_shr (x : Int64) {k i : Nat} (hk : k < 64) (hi : i + k < 64) : bt (am_shr x (nI k)) i = bt x (i + k) := by
  unfold bt am_shr
  show (x.toBitVec.sshiftRight' (((nI k).toInt64 &&& 63).toBitVec.smod 64)).getLsbD i = _
  rw [shr_fin ⟨k, hk⟩]
  show (x.toBitVec.sshiftRight (BitVec.ofNat 64 k).toNat).getLsbD i = _
  rw [show (BitVec.ofNat 64 k).toNat = k from by rw [BitVec.toNat_ofNat]; omega, BitVec.getLsbD_sshiftRight, if_pos (by omega), decide_eq_false (show ¬ 64 ≤ i by omega), Bool.not_false, Bool.true_and, Nat.add_comm]
theorem bt6 : ∀ i : Fin 64, bt 6 i = decide (i.val = 1 ∨ i.val = 2) := by decide +kernel
theorem bt7 : ∀ i : Fin 64, bt 7 i = decide (i.val = 0 ∨ i.val = 1 ∨ i.val = 2) := by decide +kernel
theorem full6 (x : Int64) {k : Nat} (hk : k + 2 < 64) : lg_cmp (am_shr x (nI k) &&& 6) 0 = 0 ↔ bt x (k + 1) = false ∧ bt x (k + 2) = false := by
  rw [lg0, bt_z]
  constructor
  · intro h
    have h1 := h 1 (by decide)
    have h2 := h 2 (by decide)
    rw [bt_and, bt_shr x (by omega) (by omega), show bt 6 1 = true from by decide, Bool.and_true] at h1
    rw [bt_and, bt_shr x (by omega) (by omega), show bt 6 2 = true from by decide, Bool.and_true] at h2
    rw [Nat.add_comm k 1, Nat.add_comm k 2]
    exact ⟨h1, h2⟩
  · intro ⟨h1, h2⟩ i hi
    rw [bt_and, bt6 ⟨i, hi⟩]
    by_cases h : i = 1 ∨ i = 2
    · rw [bt_shr x (by omega) (by omega), Nat.add_comm]
      rcases h with rfl | rfl
      · rw [h1]; rfl
      · rw [h2]; rfl
    · rw [decide_eq_false h, Bool.and_false]
theorem full7 (x : Int64) {k : Nat} (hk : k + 2 < 64) : lg_cmp (am_shr x (nI k) &&& 7) 0 = 0 ↔ bt x k = false ∧ bt x (k + 1) = false ∧ bt x (k + 2) = false := by
  rw [lg0, bt_z]
  constructor
  · intro h
    have h0 := h 0 (by decide)
    have h1 := h 1 (by decide)
    have h2 := h 2 (by decide)
    rw [bt_and, bt_shr x (by omega) (by omega), show bt 7 0 = true from by decide, Bool.and_true, Nat.zero_add] at h0
    rw [bt_and, bt_shr x (by omega) (by omega), show bt 7 1 = true from by decide, Bool.and_true] at h1
    rw [bt_and, bt_shr x (by omega) (by omega), show bt 7 2 = true from by decide, Bool.and_true] at h2
    rw [Nat.add_comm k 1, Nat.add_comm k 2]
    exact ⟨h0, h1, h2⟩
  · intro ⟨h0, h1, h2⟩ i hi
    rw [bt_and, bt7 ⟨i, hi⟩]
    by_cases h : i = 0 ∨ i = 1 ∨ i = 2
    · rw [bt_shr x (by omega) (by omega), Nat.add_comm]
      rcases h with rfl | rfl | rfl
      · rw [Nat.add_zero, h0]; rfl
      · rw [h1]; rfl
      · rw [h2]; rfl
    · rw [decide_eq_false h, Bool.and_false]
/-- to the right -/
def csh (m : Nat → Int32) (c ρ : Nat) : Bool := ρ.testBit (2 * c) && (decide (m (56 * c + 5) = 0 ∧ m (56 * c + 6) = 0) && (!att m (1 - c) (56 * c + 5) && !att m (1 - c) (56 * c + 4)))
/-- to the left -/
def clg (m : Nat → Int32) (c ρ : Nat) : Bool := ρ.testBit (2 * c + 1) && (decide (m (56 * c + 1) = 0 ∧ m (56 * c + 2) = 0 ∧ m (56 * c + 3) = 0) && (!att m (1 - c) (56 * c + 3) && !att m (1 - c) (56 * c + 4)))
def ctg (m : Nat → Int32) (c ρ s i : Nat) : Bool := decide (s = 56 * c + 4) && ((decide (i = 56 * c + 6) && csh m c ρ) || (decide (i = 56 * c + 2) && clg m c ρ))
theorem own_or {m : Nat → Int32} (hm : okm m) {i : Nat} (hi : i < 64) : (own m 0 i || own m 1 i) = decide (¬ m i = 0) := by
  have h : ∀ x : Int32, am_in x 16 = true → (decide (¬ x = 0 ∧ x >>> ((3 : Int32) &&& 31) = nI 0) || decide (¬ x = 0 ∧ x >>> ((3 : Int32) &&& 31) = nI 1)) = decide (¬ x = 0) := by
    intro x hx
    have h2 : ∀ k : Fin 16, (decide (¬ nI k = 0 ∧ nI k >>> ((3 : Int32) &&& 31) = nI 0) || decide (¬ nI k = 0 ∧ nI k >>> ((3 : Int32) &&& 31) = nI 1)) = decide (¬ nI k = 0) := by decide +kernel
    obtain ⟨k, hk, rfl⟩ := pu_inf hx (by decide)
    exact h2 ⟨k, hk⟩
  exact h _ (hm i hi)
theorem rg_fin : ∀ ρ : Fin 16, ∀ c : Fin 2, ((nI (ρ.val / 4 ^ c.val % 4) &&& 1 = 0) ↔ ρ.val.testBit (2 * c.val) = false) ∧ ((nI (ρ.val / 4 ^ c.val % 4) &&& 2 = 0) ↔ ρ.val.testBit (2 * c.val + 1) = false) := by decide +kernel
theorem rg_c0 : ∀ ρ : Fin 16, nI ρ &&& 3 = nI (ρ.val / 4 ^ 0 % 4) := by decide +kernel
theorem rg_c1 : ∀ ρ : Fin 16, nI ρ >>> ((2 : Int32) &&& 31) = nI (ρ.val / 4 ^ 1 % 4) := by decide +kernel
theorem rg_m : ∀ ρ : Fin 16, ∀ c : Fin 2, ((nI ρ &&& ((1 : Int32) <<< (((2 : Int32) * nI c) &&& 31)) = 0) ↔ ρ.val.testBit (2 * c.val) = false) ∧ ((nI ρ &&& ((2 : Int32) <<< (((2 : Int32) * nI c) &&& 31)) = 0) ↔ ρ.val.testBit (2 * c.val + 1) = false) := by decide +kernel
theorem pu_c176 (fu : Nat) (hfu : 16 < fu) (B : BdT) (hm : okm (bd_men B)) (c : Nat) (hc : c < 2) (a l : Bool) : ∃ l', j_Mover_castlingTargets_176 fu B (nI (56 * c + 4)) (nI (1 - c)) (cond a 1 0) (cond l 1 0) = some l' ∧ ∀ i, i < 64 → bt l' i = (!att (bd_men B) (1 - c) (56 * c + 4) && ((decide (i = 56 * c + 6) && a) || (decide (i = 56 * c + 2) && l))) := by
  have h188 : ∃ l', j_Mover_castlingTargets_188 fu B (nI (56 * c + 4)) (nI (1 - c)) (cond a 1 0) (cond l 1 0) = some l' ∧ ∀ i, i < 64 → bt l' i = (!att (bd_men B) (1 - c) (56 * c + 4) && ((decide (i = 56 * c + 6) && a) || (decide (i = 56 * c + 2) && l))) := by
    unfold j_Mover_castlingTargets_188 j_Mover_castlingTargets_217
    rw [pu_attacked fu B hm (1 - c) (56 * c + 4) (by omega) (by omega)]
    simp only [Option.bind_some]
    cases att (bd_men B) (1 - c) (56 * c + 4) with
    | true => exact ⟨0, by rw [if_neg (by decide)], fun i hi => by rw [bt_0]; rfl⟩
    | false =>
      rw [if_pos (by decide), show nI (56 * c + 4) + (2 : Int32) = nI (56 * c + 6) from nI_add _ 2, show nI (56 * c + 4) - (2 : Int32) = nI (56 * c + 2) from nI_sub (a := 56 * c + 4) (b := 2) (by omega)]
      cases a <;> cases l
      · refine ⟨_, by rw [if_pos (by decide), if_pos (by decide)], fun i hi => ?_⟩
        rw [bt_or, bt_0]; simp
      · refine ⟨_, by rw [if_pos (by decide), if_neg (by decide)], fun i hi => ?_⟩
        rw [bt_or, bt_0, bt_sh (by omega)]; simp
      · refine ⟨_, by rw [if_neg (by decide), if_pos (by decide)], fun i hi => ?_⟩
        rw [bt_or, bt_0, bt_sh (by omega)]; simp
      · refine ⟨_, by rw [if_neg (by decide), if_neg (by decide)], fun i hi => ?_⟩
        rw [bt_or, bt_sh (by omega), bt_sh (by omega)]; simp
  unfold j_Mover_castlingTargets_176
  cases a <;> cases l
  · rw [if_neg (by decide), if_pos (by decide)]
    exact ⟨0, rfl, fun i hi => by rw [bt_0]; simp⟩
  · rw [if_neg (by decide), if_neg (by decide)]; exact h188
  · rw [if_pos (by decide)]; exact h188
  · rw [if_pos (by decide)]; exact h188
theorem pu_castT (fu : Nat) (hfu : 16 < fu) (B : BdT) (hm : okm (bd_men B)) (c s ρ : Nat) (hc : c < 2) (hs : s < 64) (hρ : ρ < 16) (hside : bd_side B = nI c) (hh : okh B) (hr : bd_rights B = nI ρ) : ∃ l', f_Mover_castlingTargets fu (nI s) B = some l' ∧ ∀ i, i < 64 → bt l' i = ctg (bd_men B) c ρ s i := by
  generalize hq : ρ / 4 ^ c % 4 = q
  have hq4 : q < 4 := by rw [← hq]; exact Nat.mod_lt _ (by decide)
  obtain ⟨g1, g2⟩ := rg_fin ⟨ρ, hρ⟩ ⟨c, hc⟩
  simp only at g1 g2
  rw [hq] at g1 g2
  have key : ∃ l', (if nI q = (0 : Int32) then some (0 : Int64) else j_Mover_castlingTargets_57 fu B (nI s) (nI q) (nI s) (nI (56 * c + 4))) = some l' ∧ ∀ i, i < 64 → bt l' i = ctg (bd_men B) c ρ s i := by
    by_cases hq0 : nI q = 0
    · rw [if_pos hq0]
      refine ⟨0, rfl, fun i hi => ?_⟩
      have t1 := g1.mp (by rw [hq0]; decide)
      have t2 := g2.mp (by rw [hq0]; decide)
      unfold ctg csh clg
      rw [bt_0, t1, t2]
      simp
    · rw [if_neg hq0]
      unfold j_Mover_castlingTargets_57
      by_cases hsh : s = 56 * c + 4
      · rw [if_pos (by rw [hsh]), if_pos (by decide), if_pos (by decide), hside, nI_oth ⟨c, hc⟩]
        subst hsh
        have hfull : ∀ i, i < 64 → (bt (bd_held B ((0 : Int32)).toNatClampNeg ||| bd_held B ((1 : Int32)).toNatClampNeg) i = false ↔ bd_men B i = 0) := fun i hi => by
          rw [bt_or, show ((0 : Int32)).toNatClampNeg = 0 from by decide, show ((1 : Int32)).toNatClampNeg = 1 from by decide, hh 0 (by decide) i hi, hh 1 (by decide) i hi, own_or hm hi]
          simp
        generalize bd_held B ((0 : Int32)).toNatClampNeg ||| bd_held B ((1 : Int32)).toNatClampNeg = full at hfull ⊢
        have e133 : ∀ a : Bool, ∃ l', j_Mover_castlingTargets_133 fu B (nI (56 * c + 4)) (nI q) (nI (1 - c)) full (cond a 1 0) = some l' ∧ ∀ i, i < 64 → bt l' i = (!att (bd_men B) (1 - c) (56 * c + 4) && ((decide (i = 56 * c + 6) && a) || (decide (i = 56 * c + 2) && (ρ.testBit (2 * c + 1) && (decide (bd_men B (56 * c + 1) = 0 ∧ bd_men B (56 * c + 2) = 0 ∧ bd_men B (56 * c + 3) = 0) && !att (bd_men B) (1 - c) (56 * c + 3)))))) := by
          intro a
          unfold j_Mover_castlingTargets_133 j_Mover_castlingTargets_175
          have hno := pu_c176 fu hfu B hm c hc a false
          have hyes := pu_c176 fu hfu B hm c hc a true
          by_cases t2 : ρ.testBit (2 * c + 1) = false
          · rw [if_pos (g2.mpr t2), t2]
            simp only [Bool.false_and]
            exact hno
          · rw [if_neg (fun h => t2 (g2.mp h)), show nI (56 * c + 4) - (3 : Int32) = nI (56 * c + 1) from nI_sub (a := 56 * c + 4) (b := 3) (by omega)]
            rw [Bool.not_eq_false] at t2
            rw [t2]
            have hf7 := full7 full (k := 56 * c + 1) (by omega)
            rw [hfull (56 * c + 1) (by omega), hfull (56 * c + 1 + 1) (by omega), hfull (56 * c + 1 + 2) (by omega)] at hf7
            by_cases hemp : bd_men B (56 * c + 1) = 0 ∧ bd_men B (56 * c + 2) = 0 ∧ bd_men B (56 * c + 3) = 0
            · rw [if_neg (fun h => h (hf7.mpr hemp)), show nI (56 * c + 4) - (1 : Int32) = nI (56 * c + 3) from nI_sub (a := 56 * c + 4) (b := 1) (by omega), pu_attacked fu B hm (1 - c) (56 * c + 3) (by omega) (by omega)]
              simp only [Option.bind_some, hemp, and_self, decide_true, Bool.true_and]
              cases att (bd_men B) (1 - c) (56 * c + 3) with
              | true => rw [if_pos (by decide)]; exact hno
              | false => rw [if_neg (by decide)]; exact hyes
            · rw [if_pos (fun h => hemp (hf7.mp h)), decide_eq_false hemp]
              simp only [Bool.false_and, Bool.and_false]
              simp only [Bool.and_false] at hno
              exact hno
        have hfin : ∀ a : Bool, a = (ρ.testBit (2 * c) && (decide (bd_men B (56 * c + 5) = 0 ∧ bd_men B (56 * c + 6) = 0) && !att (bd_men B) (1 - c) (56 * c + 5))) → ∃ l', j_Mover_castlingTargets_133 fu B (nI (56 * c + 4)) (nI q) (nI (1 - c)) full (cond a 1 0) = some l' ∧ ∀ i, i < 64 → bt l' i = ctg (bd_men B) c ρ (56 * c + 4) i := by
          intro a ha
          obtain ⟨l', e1, e2⟩ := e133 a
          refine ⟨l', e1, fun i hi => ?_⟩
          rw [e2 i hi, ha]
          unfold ctg csh clg
          cases att (bd_men B) (1 - c) (56 * c + 4) <;> simp [Bool.and_assoc]
        by_cases t1 : ρ.testBit (2 * c) = false
        · rw [if_pos (g1.mpr t1)]
          unfold j_Mover_castlingTargets_132
          exact hfin false (by rw [t1]; rfl)
        · rw [if_neg (fun h => t1 (g1.mp h))]
          rw [Bool.not_eq_false] at t1
          have hf6 := full6 full (k := 56 * c + 4) (by omega)
          rw [hfull (56 * c + 4 + 1) (by omega), hfull (56 * c + 4 + 2) (by omega)] at hf6
          unfold j_Mover_castlingTargets_132
          by_cases hemp : bd_men B (56 * c + 5) = 0 ∧ bd_men B (56 * c + 6) = 0
          · rw [if_neg (fun h => h (hf6.mpr hemp)), show nI (56 * c + 4) + (1 : Int32) = nI (56 * c + 5) from nI_add _ 1, pu_attacked fu B hm (1 - c) (56 * c + 5) (by omega) (by omega)]
            simp only [Option.bind_some]
            cases hat : att (bd_men B) (1 - c) (56 * c + 5) with
            | true => rw [if_pos (by decide)]; exact hfin false (by rw [hat]; simp)
            | false => rw [if_neg (by decide)]; exact hfin true (by rw [t1, hat, decide_eq_true hemp]; rfl)
          · rw [if_pos (fun h => hemp (hf6.mp h))]
            exact hfin false (by rw [decide_eq_false hemp]; simp)
      · rw [if_neg (fun h => hsh ((nI_eq (by omega) (by omega)).mp h))]
        exact ⟨0, rfl, fun i hi => by unfold ctg; rw [bt_0, decide_eq_false hsh, Bool.false_and]⟩
  unfold f_Mover_castlingTargets j_Mover_castlingTargets_15 j_Mover_castlingTargets_41
  rw [hside, hr]
  rcases (show c = 0 ∨ c = 1 by omega) with rfl | rfl
  · rw [if_neg (by decide), if_neg (by decide), rg_c0 ⟨ρ, hρ⟩, if_neg (show ¬ (1 : Int32) = 0 by decide)]
    rw [hq]
    exact key
  · rw [if_pos (by decide), if_pos (by decide), rg_c1 ⟨ρ, hρ⟩, if_pos (show (0 : Int32) = 0 from rfl)]
    rw [hq]
    exact key
