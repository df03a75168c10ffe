/-! WHAT IS SEEN -/
/-- the squares up to the first man, his too -/
def upto (m : Nat → Int32) : List Nat → List Nat
  | [] => []
  | t :: l => t :: (if m t = 0 then upto m l else [])
theorem pu_s29e (fu : Nat) (b : BdT) (x1 x3 x4 x7 l5 : _) (x9 : Int32) (n : Nat) : l_Board_seen_29 fu b x1 x3 x4 x7 (n + 1) l5 (-1) x9 = some l5 := by
  show b_Board_seen_29 fu b x1 x3 x4 x7 _ l5 (-1) x9 = some l5
  unfold b_Board_seen_29
  by_cases h : x4 ≤ x9
  · rw [if_pos h]
  · rw [if_neg h, if_pos (by decide)]
theorem pu_s29 (fu : Nat) (b : BdT) (x1 x3 : Int32) (w : Nat) (hw : w < 16) (most : Nat) (hmost : most ≤ 7) : ∀ (f s n : Nat) (l5 : Int64), s < 64 → f ≤ most → f + 1 < n → ∃ l', l_Board_seen_29 fu b x1 x3 (nI most) (nI w) n l5 (nx w s) (nI (most - f)) = some l' ∧ ∀ i, bt l' i = (bt l5 i || decide (i ∈ upto (bd_men b) (ryf f w s))) := by
  intro f
  induction f with
  | zero =>
    intro s n l5 hs _ hn
    obtain ⟨n, rfl⟩ : ∃ m, n = m + 1 := ⟨n - 1, by omega⟩
    refine ⟨l5, ?_, fun i => by simp [ryf, upto]⟩
    show b_Board_seen_29 fu b x1 x3 (nI most) (nI w) _ l5 (nx w s) (nI (most - 0)) = _
    unfold b_Board_seen_29
    rw [if_pos (nI_le (by omega) (by omega))]
  | succ f ih =>
    intro s n l5 hs hf hn
    obtain ⟨n, rfl⟩ : ∃ m, n = m + 1 := ⟨n - 1, by omega⟩
    show ∃ l', b_Board_seen_29 fu b x1 x3 (nI most) (nI w) (l_Board_seen_29 fu b x1 x3 (nI most) (nI w) n) l5 (nx w s) (nI (most - (f + 1))) = some l' ∧ _
    unfold b_Board_seen_29 j_Board_seen_77 ryf
    rw [if_neg (nI_ge (a := most - (f + 1)) (b := most) (by omega) (by omega))]
    rcases nx_cases hw hs with h | ⟨t, ht, h⟩
    · rw [h, if_pos (by decide), if_pos (by decide)]
      exact ⟨l5, rfl, fun i => by simp [upto]⟩
    · rw [h, if_neg (nI_pos (by omega)), if_pos (pu_in ht (by decide)), nI_clamp (by omega), if_neg (nI_pos (by omega))]
      by_cases hm : bd_men b t = 0
      · rw [if_neg (fun q => q hm), pu_idx hw ht, if_pos (pu_in (by omega) (by decide)), nI_clamp (by omega), nI_1, show most - (f + 1) + 1 = most - f by omega]
        obtain ⟨l', e1, e2⟩ := ih t n (l5 ||| am_shl 1 (nI t)) ht (by omega) (by omega)
        refine ⟨l', e1, fun i => ?_⟩
        rw [e2 i, bt_or, bt_sh ht]
        rw [show upto (bd_men b) (t :: ryf f w t) = t :: (if bd_men b t = 0 then upto (bd_men b) (ryf f w t) else []) from rfl, if_pos hm]
        simp only [List.mem_cons, Bool.decide_or, Bool.or_assoc]
      · rw [if_pos hm]
        obtain ⟨n, rfl⟩ : ∃ m, n = m + 1 := ⟨n - 1, by omega⟩
        refine ⟨_, pu_s29e fu b _ _ _ _ _ _ n, fun i => ?_⟩
        rw [bt_or, bt_sh ht]
        rw [show upto (bd_men b) (t :: ryf f w t) = t :: (if bd_men b t = 0 then upto (bd_men b) (ryf f w t) else []) from rfl, if_neg hm]
        simp only [List.mem_cons, List.not_mem_nil, or_false]
/-- seen from a square in some ways -/
def sees (m : Nat → Int32) (s a k most i : Nat) : Bool := (List.range' a k).any (fun w => decide (i ∈ upto m (ryf most w s)))
theorem pu_s6 (fu : Nat) (b : BdT) (s e most : Nat) (hs : s < 64) (he : e ≤ 16) (hmost : most ≤ 7) (hfu : 10 < fu) : ∀ (k n : Nat) (l5 : Int64), k ≤ e → k < n → ∃ l', l_Board_seen_6 fu b (nI s) (nI e) (nI most) n l5 (nI (e - k)) = some l' ∧ ∀ i, bt l' i = (bt l5 i || sees (bd_men b) s (e - k) k most i) := by
  intro k
  induction k with
  | zero =>
    intro n l5 _ hn
    obtain ⟨n, rfl⟩ : ∃ m, n = m + 1 := ⟨n - 1, by omega⟩
    refine ⟨l5, ?_, fun i => ?_⟩
    · show b_Board_seen_6 fu b (nI s) (nI e) (nI most) _ l5 (nI (e - 0)) = _
      unfold b_Board_seen_6
      rw [if_pos (nI_le (by omega) (by omega))]
    · show _ = (bt l5 i || false)
      rw [Bool.or_false]
  | succ k ih =>
    intro n l5 hk hn
    obtain ⟨n, rfl⟩ : ∃ m, n = m + 1 := ⟨n - 1, by omega⟩
    show ∃ l', b_Board_seen_6 fu b (nI s) (nI e) (nI most) (l_Board_seen_6 fu b (nI s) (nI e) (nI most) n) l5 (nI (e - (k + 1))) = some l' ∧ _
    generalize hw : e - (k + 1) = w
    unfold b_Board_seen_6 j_Board_seen_85
    rw [if_neg (nI_ge (a := w) (b := e) (by omega) (by omega)), pu_idx (by omega) hs, if_pos (pu_in (by omega) (by decide)), nI_clamp (by omega)]
    obtain ⟨l1, e1, e2⟩ := pu_s29 fu b (nI s) (nI e) w (by omega) most hmost most s fu l5 hs (Nat.le_refl _) (by omega)
    rw [Nat.sub_self] at e1
    rw [show tb_next (64 * w + s) = nx w s from rfl, show (0 : Int32) = nI 0 from rfl, e1]
    obtain ⟨l2, e3, e4⟩ := ih n l1 (by omega) (by omega)
    refine ⟨l2, ?_, fun i => ?_⟩
    · show l_Board_seen_6 fu b (nI s) (nI e) (nI most) n l1 (nI w + 1) = _
      rw [nI_1, show w + 1 = e - k by omega]
      exact e3
    · rw [e4 i, e2 i, Bool.or_assoc]
      congr 1
      unfold sees
      rw [List.range'_succ, List.any_cons, show w + 1 = e - k by omega]
theorem pu_seen (fu : Nat) (b : BdT) (s a e most : Nat) (hs : s < 64) (ha : a ≤ e) (he : e ≤ 16) (hmost : most ≤ 7) (hfu : 16 < fu) : ∃ l', f_Board_seen fu (nI s) (nI a) (nI e) (nI most) b = some l' ∧ ∀ i, bt l' i = sees (bd_men b) s a (e - a) most i := by
  obtain ⟨l', e1, e2⟩ := pu_s6 fu b s e most hs he hmost (by omega) (e - a) fu 0 (by omega) (by omega)
  rw [show e - (e - a) = a by omega] at e1 e2
  exact ⟨l', e1, fun i => by rw [e2 i, show bt 0 i = false from by unfold bt; rw [show (0 : Int64).toBitVec = 0#64 from rfl, BitVec.getLsbD_zero], Bool.false_or]⟩
