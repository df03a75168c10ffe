/-! WHAT A MAN REACHES: the reference's side -/
theorem bt_0 (i : Nat) : bt 0 i = false := by
  unfold bt
  rw [show (0 : Int64).toBitVec = 0#64 from rfl, BitVec.getLsbD_zero]
theorem pu_bit {t : Nat} (ht : t < 64) : f_M_bit (nI t) = some (am_shl 1 (nI t)) := by
  unfold f_M_bit
  rw [if_pos (nI_pos' (by omega))]
theorem pu_bitn : f_M_bit (-1) = some 0 := by decide
theorem pu_w11e (fu : Nat) (Q : PoT) (x2 x3 : Int32) (n : Nat) (l4 : Int64) : l_M_walk_11 fu Q x2 x3 (n + 1) l4 (-1) = some l4 := by
  show b_M_walk_11 fu Q x2 x3 _ l4 (-1) = some l4
  unfold b_M_walk_11
  rw [if_pos (by decide)]
theorem pu_w11 (fu : Nat) (Q : PoT) (w : Nat) (hw : w < 16) : ∀ (f s n : Nat) (l4 : Int64), s < 64 → ryf (f + 1) w s = ryf f w s → f + 1 < n → ∃ l', l_M_walk_11 fu Q (tb_FILE_STEP w) (tb_RANK_STEP w) n l4 (nx w s) = some l' ∧ ∀ i, bt l' i = (bt l4 i || decide (i ∈ upto (po_men Q) (ryf f w s))) := by
  intro f
  induction f with
  | zero =>
    intro s n l4 hs hr hn
    obtain ⟨n, rfl⟩ : ∃ m, n = m + 1 := ⟨n - 1, by omega⟩
    rcases nx_cases hw hs with h | ⟨t, ht, h⟩
    · rw [h]
      exact ⟨l4, pu_w11e fu Q _ _ n l4, fun i => by simp [ryf, upto]⟩
    · exfalso
      unfold ryf at hr
      rw [h, if_neg (nI_pos (by omega))] at hr
      cases hr
  | succ f ih =>
    intro s n l4 hs hr hn
    obtain ⟨n, rfl⟩ : ∃ m, n = m + 1 := ⟨n - 1, by omega⟩
    rcases nx_cases hw hs with h | ⟨t, ht, h⟩
    · refine ⟨l4, by rw [h]; exact pu_w11e fu Q _ _ n l4, fun i => ?_⟩
      unfold ryf
      rw [h, if_pos (by decide)]
      simp [upto]
    · unfold ryf at hr ⊢
      rw [h, if_neg (nI_pos (by omega)), nI_clamp (by omega), if_neg (nI_pos (by omega))] at hr
      rw [h, nI_clamp (by omega), if_neg (nI_pos (by omega))]
      show ∃ l', b_M_walk_11 fu Q _ _ (l_M_walk_11 fu Q (tb_FILE_STEP w) (tb_RANK_STEP w) n) l4 (nI t) = some l' ∧ _
      unfold b_M_walk_11 j_M_walk_47
      rw [if_neg (nI_pos (by omega)), pu_bit ht]
      show ∃ l', (if am_in (nI t) 64 = true then if ¬ po_men Q (nI t).toNatClampNeg = 0 then l_M_walk_11 fu Q (tb_FILE_STEP w) (tb_RANK_STEP w) n (l4 ||| am_shl 1 (nI t)) (-1) else (f_M_step (nI t) (tb_FILE_STEP w) (tb_RANK_STEP w)).bind (fun r3 => l_M_walk_11 fu Q (tb_FILE_STEP w) (tb_RANK_STEP w) n (l4 ||| am_shl 1 (nI t)) r3) else none) = some l' ∧ _
      rw [if_pos (pu_in ht (by decide)), nI_clamp (by omega)]
      by_cases hm : po_men Q t = 0
      · rw [if_neg (fun q => q hm), pu_step hw ht]
        obtain ⟨l', e1, e2⟩ := ih t n (l4 ||| am_shl 1 (nI t)) ht (List.cons.inj hr).2 (by omega)
        refine ⟨l', e1, fun i => ?_⟩
        rw [e2 i, bt_or, bt_sh ht, show upto (po_men Q) (t :: ryf f w t) = t :: (if po_men Q t = 0 then upto (po_men Q) (ryf f w t) else []) from rfl, if_pos hm]
        simp only [List.mem_cons, Bool.decide_or, Bool.or_assoc]
      · rw [if_pos hm]
        obtain ⟨n, rfl⟩ : ∃ m, n = m + 1 := ⟨n - 1, by omega⟩
        refine ⟨_, pu_w11e fu Q _ _ n _, fun i => ?_⟩
        rw [bt_or, bt_sh ht, show upto (po_men Q) (t :: ryf f w t) = t :: (if po_men Q t = 0 then upto (po_men Q) (ryf f w t) else []) from rfl, if_neg hm]
        simp only [List.mem_cons, List.not_mem_nil, or_false]
theorem pu_walk (fu : Nat) (Q : PoT) {w s : Nat} (hw : w < 8) (hs : s < 64) (hfu : 8 < fu) : ∃ l', f_M_walk fu (nI s) (tb_FILE_STEP w) (tb_RANK_STEP w) Q = some l' ∧ ∀ i, bt l' i = decide (i ∈ upto (po_men Q) (ryf 7 w s)) := by
  unfold f_M_walk
  rw [pu_step (by omega) hs]
  obtain ⟨l', e1, e2⟩ := pu_w11 fu Q w (by omega) 7 s fu 0 hs (ry_all ⟨w, hw⟩ ⟨s, hs⟩) hfu
  exact ⟨l', e1, fun i => by rw [e2 i, bt_0, Bool.false_or]⟩
