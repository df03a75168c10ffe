/-! THE TABLE OF STEPS -/
theorem pu_in {i n : Nat} (h : i < n) (hn : n < 2 ^ 31) : am_in (nI i) n = true := by
  unfold am_in
  rw [nI_toInt (by omega)]
  exact decide_eq_true ⟨by omega, by omega⟩
theorem pu_inf {x : Int32} {n : Nat} (h : am_in x n = true) (hn : n < 2 ^ 31) : ∃ i, i < n ∧ x = nI i := by
  have h := of_decide_eq_true h
  refine ⟨x.toInt.toNat, by omega, ?_⟩
  rw [← Int32.toInt_inj, nI_toInt (by omega)]
  omega
/-- what the loop's body writes -/
def pu_s16 (x1 x2 : Int32) : Int32 × Int32 :=
  ((64 : Int32) * x1 + x2, if 0 ≤ (x2 &&& 7) + tb_FILE_STEP x1.toNatClampNeg ∧ (x2 &&& 7) + tb_FILE_STEP x1.toNatClampNeg < 8 ∧ 0 ≤ (x2 >>> ((3 : Int32) &&& 31)) + tb_RANK_STEP x1.toNatClampNeg ∧ (x2 >>> ((3 : Int32) &&& 31)) + tb_RANK_STEP x1.toNatClampNeg < 8 then (x2 &&& 7) + tb_FILE_STEP x1.toNatClampNeg + 8 * ((x2 >>> ((3 : Int32) &&& 31)) + tb_RANK_STEP x1.toNatClampNeg) else -1)
theorem pu_s16_ok : ∀ w : Fin 16, ∀ i : Fin 64, pu_s16 (nI w) (nI i) = (nI (64 * w + i), tb_next (64 * w + i)) := by decide +kernel
theorem pu_b16 (fu : Nat) (gg : Int32 → NxT → Option NxT) (W : NxT) {x1 x2 : Int32} (h1 : am_in x1 16 = true) (h2 : ¬ (64 : Int32) ≤ x2) (h3 : am_in (pu_s16 x1 x2).1 1024 = true) : b_Mp_stepTable_16 fu x1 gg x2 W = gg (x2 + 1) (upd W (pu_s16 x1 x2).1.toNatClampNeg (pu_s16 x1 x2).2) := by
  unfold b_Mp_stepTable_16
  rw [if_neg h2, if_pos h1, if_pos h1]
  have h3' : am_in (((64 : Int32) * x1) + x2) 1024 = true := h3
  simp only [j_Mp_stepTable_70, j_Mp_stepTable_71, j_Mp_stepTable_96, h3', pu_s16]
  simp only [Int32.not_lt, Int32.not_le, if_true]
  repeat' split
  all_goals first
    | rfl
    | (exfalso; simp only [Int32.lt_iff_toInt_lt, Int32.le_iff_toInt_le] at *; omega)
    | simp_all
theorem pu_l16 (fu w : Nat) (hw : w < 16) (W : NxT) : ∀ (j n : Nat), j ≤ 64 → j < n → l_Mp_stepTable_16 fu (nI w) n (nI (64 - j)) W = some (fun k => if 64 * w + (64 - j) ≤ k ∧ k < 64 * w + 64 then tb_next k else W k) := by
  intro j
  induction j generalizing W with
  | zero =>
    intro n _ hn
    obtain ⟨n, rfl⟩ : ∃ m, n = m + 1 := ⟨n - 1, by omega⟩
    show b_Mp_stepTable_16 fu (nI w) _ (nI 64) W = _
    unfold b_Mp_stepTable_16
    rw [if_pos (show (64 : Int32) ≤ nI 64 from by decide)]
    congr 1
    funext k
    rw [if_neg (by omega)]
  | succ j ih =>
    intro n hj hn
    obtain ⟨n, rfl⟩ : ∃ m, n = m + 1 := ⟨n - 1, by omega⟩
    have e := pu_s16_ok ⟨w, hw⟩ ⟨64 - (j + 1), by omega⟩
    show b_Mp_stepTable_16 fu (nI w) (l_Mp_stepTable_16 fu (nI w) n) (nI (64 - (j + 1))) W = _
    have e' : pu_s16 (nI w) (nI (64 - (j + 1))) = (nI (64 * w + (64 - (j + 1))), tb_next (64 * w + (64 - (j + 1)))) := e
    rw [pu_b16 fu _ W (pu_in hw (by decide)) (nI_ge (by omega) (by decide) : ¬ nI 64 ≤ nI (64 - (j + 1))) (by rw [e']; exact pu_in (by omega) (by decide)), e', nI_1, show 64 - (j + 1) + 1 = 64 - j by omega, ih _ n (by omega) (by omega), nI_clamp (by omega)]
    congr 1
    funext k
    unfold upd
    by_cases h1 : k = 64 * w + (64 - (j + 1))
    · subst h1
      rw [if_neg (by omega), if_pos rfl, if_pos (by omega)]
    · by_cases h2 : 64 * w + (64 - j) ≤ k ∧ k < 64 * w + 64
      · rw [if_pos h2, if_pos (by omega)]
      · rw [if_neg h2, if_neg h1, if_neg (by omega)]
theorem pu_l8 (fu : Nat) (hfu : 64 < fu) : ∀ (j n : Nat) (W : NxT), j ≤ 16 → j < n → l_Mp_stepTable_8 fu n (nI (16 - j)) W = some (fun k => if 64 * (16 - j) ≤ k ∧ k < 1024 then tb_next k else W k) := by
  intro j
  induction j with
  | zero =>
    intro n W _ hn
    obtain ⟨n, rfl⟩ : ∃ m, n = m + 1 := ⟨n - 1, by omega⟩
    show b_Mp_stepTable_8 fu _ (nI 16) W = _
    unfold b_Mp_stepTable_8
    rw [if_pos (show (16 : Int32) ≤ nI 16 from by decide)]
    congr 1
    funext k
    rw [if_neg (by omega)]
  | succ j ih =>
    intro n W hj hn
    obtain ⟨n, rfl⟩ : ∃ m, n = m + 1 := ⟨n - 1, by omega⟩
    show b_Mp_stepTable_8 fu (l_Mp_stepTable_8 fu n) (nI (16 - (j + 1))) W = _
    unfold b_Mp_stepTable_8
    have h0 := pu_l16 fu (16 - (j + 1)) (by omega) W 64 fu (by omega) hfu
    rw [if_neg (show ¬ (16 : Int32) ≤ nI (16 - (j + 1)) from nI_ge (a := 16 - (j + 1)) (b := 16) (by omega) (by decide)), show (0 : Int32) = nI (64 - 64) from rfl, h0]
    show l_Mp_stepTable_8 fu n (nI (16 - (j + 1)) + 1) _ = _
    rw [nI_1, show 16 - (j + 1) + 1 = 16 - j by omega, ih n _ (by omega) (by omega)]
    congr 1
    funext k
    by_cases h1 : 64 * (16 - j) ≤ k ∧ k < 1024
    · rw [if_pos h1, if_pos (by omega)]
    · rw [if_neg h1]
      by_cases h2 : 64 * (16 - (j + 1)) + (64 - 64) ≤ k ∧ k < 64 * (16 - (j + 1)) + 64
      · rw [if_pos h2, if_pos (by omega)]
      · rw [if_neg h2, if_neg (by omega)]
theorem pu_steps (fu : Nat) (hfu : 64 < fu) : f_Mp_stepTable fu (fun _ => 0) = some tb_next := by
  unfold f_Mp_stepTable
  rw [show (0 : Int32) = nI (16 - 16) from rfl, pu_l8 fu hfu 16 fu _ (by omega) (by omega)]
  congr 1
  funext k
  by_cases h : 64 * (16 - 16) ≤ k ∧ k < 1024
  · rw [if_pos h]
  · rw [if_neg h]
    unfold tb_next
    rw [show Nat.blt k 1024 = false from by
      cases hb : Nat.blt k 1024 with
      | false => rfl
      | true => exact absurd (Nat.le_of_ble_eq_true hb) (by omega)]
    rfl
