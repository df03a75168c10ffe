/-! KINGS AND CHECK -/
/-- the one king of a side -/
def kng (m : Nat → Int32) (c k : Nat) : Prop := k < 64 ∧ m k = 6 + 8 * nI c ∧ ∀ t, t < 64 → m t = 6 + 8 * nI c → t = k
theorem pu_nar (b : Bool) : vp_nar .boolean (cond b (1 : Int32) 0) = cond b 1 0 := by cases b <;> decide
theorem pu_k2 (fu : Nat) (Q : PoT) (c k : Nat) (hk : kng (po_men Q) c k) : ∀ (j n : Nat), j ≤ k → j < n → l_M_kingOf_2 fu Q (nI c) n (nI (k - j)) = some (nI k) := by
  obtain ⟨h1, h2, h3⟩ := hk
  intro j
  induction j with
  | zero =>
    intro n _ hn
    obtain ⟨n, rfl⟩ : ∃ m, n = m + 1 := ⟨n - 1, by omega⟩
    show b_M_kingOf_2 fu Q (nI c) _ (nI k) = _
    unfold b_M_kingOf_2
    rw [if_pos (pu_in h1 (by decide)), nI_clamp (by omega), if_pos h2]
  | succ j ih =>
    intro n hj hn
    obtain ⟨n, rfl⟩ : ∃ m, n = m + 1 := ⟨n - 1, by omega⟩
    show b_M_kingOf_2 fu Q (nI c) (l_M_kingOf_2 fu Q (nI c) n) (nI (k - (j + 1))) = _
    unfold b_M_kingOf_2
    rw [if_pos (pu_in (by omega) (by decide)), nI_clamp (by omega), if_neg (fun h => by have := h3 (k - (j + 1)) (by omega) h; omega), nI_1, show k - (j + 1) + 1 = k - j by omega]
    exact ih n (by omega) (by omega)
theorem pu_kingOf (fu : Nat) (hfu : 64 < fu) (Q : PoT) (c k : Nat) (hk : kng (po_men Q) c k) : f_M_kingOf fu (nI c) Q = some (nI k) := by
  have h := pu_k2 fu Q c k hk k fu (Nat.le_refl _) (by have := hk.1; omega)
  rw [Nat.sub_self] at h
  exact h
theorem nI_oth : ∀ c : Fin 2, (1 : Int32) - nI c = nI (1 - c) := by decide +kernel
theorem pu_mCheck (fu : Nat) (hfu : 64 < fu) (Q : PoT) (hm : okm (po_men Q)) (c k : Nat) (hc : c < 2) (hk : kng (po_men Q) c k) : f_M_inCheck fu (nI c) Q = some (cond (att (po_men Q) (1 - c) k) 1 0) := by
  unfold f_M_inCheck
  rw [pu_kingOf fu hfu Q c k hk]
  show (f_M_isAttacked fu (nI k) ((1 : Int32) - nI c) Q).bind _ = _
  rw [nI_oth ⟨c, hc⟩, pu_isAttacked fu (by omega) Q hm (1 - c) k (by omega) hk.1]
  show some (vp_nar .boolean _) = _
  rw [pu_nar]
theorem pu_isLegal (fu : Nat) (hfu : 64 < fu) (b : BdT) (hm : okm (bd_men b)) (c k : Nat) (hc : c < 2) (hs : bd_side b = nI c) (hk : bd_kings b (1 - c) = nI k) (hk64 : k < 64) : f_Board_isLegal fu b = some (cond (att (bd_men b) c k) 0 1) := by
  unfold f_Board_isLegal
  rw [hs, nI_oth ⟨c, hc⟩, if_pos (pu_in (by show 1 - c < 2; omega) (by decide)), nI_clamp (by show 1 - c < _; omega)]
  show (f_Board_attacked fu (bd_kings b (1 - c)) (nI c) b).bind _ = _
  rw [hk, pu_attacked fu b hm c k hk64 (by omega)]
  cases att (bd_men b) c k <;> rfl
theorem pu_bCheck (fu : Nat) (hfu : 64 < fu) (b : BdT) (hm : okm (bd_men b)) (c k : Nat) (hc : c < 2) (hs : bd_side b = nI c) (hk : bd_kings b c = nI k) (hk64 : k < 64) : f_Board_inCheck fu b = some (cond (att (bd_men b) (1 - c) k) 1 0) := by
  unfold f_Board_inCheck
  rw [hs, if_pos (pu_in (by omega) (by decide)), nI_clamp (by omega)]
  show (f_Board_attacked fu (bd_kings b c) ((1 : Int32) - nI c) b).bind _ = _
  rw [hk, nI_oth ⟨c, hc⟩, pu_attacked fu b hm (1 - c) k hk64 (by omega)]
  show some (vp_nar .boolean _) = _
  rw [pu_nar]
