/-! SETS OF SQUARES -/
def bt (x : Int64) (i : Nat) : Bool := x.toBitVec.getLsbD i
theorem bt_ext {x y : Int64} (h : ∀ i, i < 64 → bt x i = bt y i) : x = y := by
  apply Int64.toBitVec_inj.mp
  exact BitVec.eq_of_getLsbD_eq (fun i hi => h i hi)
theorem bt_ge {x : Int64} {i : Nat} (h : 64 ≤ i) : bt x i = false := BitVec.getLsbD_of_ge _ _ h
theorem bt_and (x y : Int64) (i : Nat) : bt (x &&& y) i = (bt x i && bt y i) := by
  unfold bt; rw [Int64.toBitVec_and, BitVec.getLsbD_and]
theorem bt_or (x y : Int64) (i : Nat) : bt (x ||| y) i = (bt x i || bt y i) := by
  unfold bt; rw [Int64.toBitVec_or, BitVec.getLsbD_or]
theorem bt_xor (x y : Int64) (i : Nat) : bt (x ^^^ y) i = (bt x i ^^ bt y i) := by
  unfold bt; rw [Int64.toBitVec_xor, BitVec.getLsbD_xor]
theorem sh_fin : ∀ k : Fin 64, (am_shl 1 (nI k)).toBitVec = BitVec.twoPow 64 k := by decide +kernel
theorem bt_sh {k : Nat} (hk : k < 64) (i : Nat) : bt (am_shl 1 (nI k)) i = decide (i = k) := by
  unfold bt
  rw [sh_fin ⟨k, hk⟩, BitVec.getLsbD_twoPow]
  simp only [hk, decide_true, Bool.true_and, eq_comm]
theorem bt_neg1 (i : Nat) : bt (-1) i = decide (i < 64) := by
  unfold bt
  rw [show (-1 : Int64).toBitVec = BitVec.allOnes 64 from by decide, BitVec.getLsbD_allOnes]
theorem bt_not (x : Int64) (i : Nat) : bt (x ^^^ (-1)) i = (decide (i < 64) && !bt x i) := by
  rw [bt_xor, bt_neg1]
  by_cases h : i < 64
  · simp [h]
  · rw [bt_ge (by omega)]; simp [h]
/-- the least square of a set -/
def low (x : Int64) (k : Nat) : Prop := k < 64 ∧ bt x k = true ∧ ∀ i, i < k → bt x i = false
theorem low_ex {x : Int64} (h : x ≠ 0) : ∃ k, low x k := by
  have : ∃ i, i < 64 ∧ bt x i = true := by
    apply Classical.byContradiction
    intro hn
    apply h
    apply bt_ext
    intro i hi
    rw [show bt 0 i = false from by unfold bt; rw [show (0 : Int64).toBitVec = 0#64 from rfl, BitVec.getLsbD_zero]]
    cases hb : bt x i with
    | false => rfl
    | true => exact absurd ⟨i, hi, hb⟩ hn
  obtain ⟨i, hi, hb⟩ := this
  have g : ∀ n i, i ≤ n → i < 64 → bt x i = true → ∃ k, low x k := by
    intro n
    induction n with
    | zero => intro i h1 h2 h3; exact ⟨i, h2, h3, fun j hj => by omega⟩
    | succ n ih =>
      intro i h1 h2 h3
      by_cases hz : ∃ j, j < i ∧ bt x j = true
      · obtain ⟨j, hj, hb⟩ := hz
        exact ih j (by omega) (by omega) hb
      · exact ⟨i, h2, h3, fun j hj => by
          cases hb : bt x j with
          | false => rfl
          | true => exact absurd ⟨j, hj, hb⟩ hz⟩
  exact g i i (Nat.le_refl _) hi hb
theorem bt_low {x : Int64} {k : Nat} (h : low x k) : x &&& (-x) = am_shl 1 (nI k) := by
  obtain ⟨h1, h2, h3⟩ := h
  apply bt_ext
  intro i hi
  rw [bt_sh h1, bt_and]
  unfold bt at *
  rw [Int64.toBitVec_neg, BitVec.getLsbD_neg]
  by_cases hik : i = k
  · subst hik
    have : ¬ ∃ j, j < i ∧ x.toBitVec.getLsbD j = true := fun ⟨j, hj, hb⟩ => by rw [h3 j hj] at hb; cases hb
    simp [h2, hi, this]
  · rw [decide_eq_false hik]
    by_cases hlt : i < k
    · rw [h3 i hlt]; rfl
    · have : ∃ j, j < i ∧ x.toBitVec.getLsbD j = true := ⟨k, by omega, h2⟩
      cases hb : x.toBitVec.getLsbD i <;> simp [hi, this]
theorem cnt_fin : ∀ k : Fin 64, f_Long_bitCount (am_shl 1 (nI k) - 1) = some (nI k) := by decide +kernel
theorem pu_lowest {x : Int64} {k : Nat} (h : low x k) : f_Mover_lowest x = some (nI k) := by
  unfold f_Mover_lowest
  rw [bt_low h, cnt_fin ⟨k, h.1⟩]
  rfl
