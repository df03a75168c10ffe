/-! .. all that it reaches -/
def gw (m : Nat → Int32) (k : Int32) (w s i : Nat) : Bool :=
  if w < 8 then (decide (k = 6) && decide (i ∈ upto m (ryf 1 w s))) || (decide (k = 5 ∨ k = if w < 4 then 4 else 3) && decide (i ∈ upto m (ryf 7 w s))) else if w < 16 then decide (k = 2) && decide (i ∈ upto m (ryf 1 w s)) else false
theorem pu_sbit {w s : Nat} (hw : w < 16) (hs : s < 64) (m : Nat → Int32) : ∃ l', f_M_bit (nx w s) = some l' ∧ ∀ i, bt l' i = decide (i ∈ upto m (ryf 1 w s)) := by
  rcases nx_cases hw hs with h | ⟨t, ht, h⟩
  · refine ⟨0, by rw [h]; exact pu_bitn, fun i => ?_⟩
    unfold ryf
    rw [h, if_pos (by decide), bt_0]
    simp [upto]
  · refine ⟨am_shl 1 (nI t), by rw [h]; exact pu_bit ht, fun i => ?_⟩
    unfold ryf
    rw [h, if_neg (nI_pos (by omega)), nI_clamp (by omega), bt_sh ht]
    simp [upto, ryf]
theorem pu_r120 (fu : Nat) (hfu : 8 < fu) (gg : Int64 → Int32 → Option Int64) (Q : PoT) (k : Int32) (s a j : Nat) (hs : s < 64) (ha : a < 5) (hj : j < 5) (hw : wy a j < 8) (l3 : Int64) : ∃ l', j_M_reach_120 fu gg Q (nI s) k l3 (rr a) (rr j) = gg l' (rr (j + 1)) ∧ ∀ i, bt l' i = (bt l3 i || decide (i ∈ upto (po_men Q) (ryf 7 (wy a j) s))) := by
  obtain ⟨f1, f2⟩ := (wy_fin ⟨a, ha⟩ ⟨j, hj⟩).1 (show wy a j < 16 by omega)
  simp only at f1 f2
  obtain ⟨l1, e1, e2⟩ := pu_walk fu Q hw hs hfu
  rw [f1, f2] at e1
  unfold j_M_reach_120 j_M_reach_132
  rw [e1]
  exact ⟨l3 ||| l1, by rw [← rr_1]; rfl, fun i => by rw [bt_or, e2 i]⟩
theorem pu_r88 (fu : Nat) (hfu : 8 < fu) (gg : Int64 → Int32 → Option Int64) (Q : PoT) (k : Int32) (s a j : Nat) (hs : s < 64) (ha : a < 5) (hj : j < 5) (l3 : Int64) : ∃ l', j_M_reach_88 fu gg Q (nI s) k l3 (rr a) (rr j) (rr a * rr a + rr j * rr j) = gg l' (rr (j + 1)) ∧ ∀ i, bt l' i = (bt l3 i || (decide (wy a j < 8) && decide (k = 5 ∨ k = if wy a j < 4 then 4 else 3) && decide (i ∈ upto (po_men Q) (ryf 7 (wy a j) s)))) := by
  obtain ⟨-, -, e1, e2⟩ := wy_fin ⟨a, ha⟩ ⟨j, hj⟩
  simp only at e1 e2
  have no : ∃ l', gg l3 (rr j + 1) = gg l' (rr (j + 1)) ∧ ∀ i, bt l' i = (bt l3 i || false) := ⟨l3, by rw [rr_1], fun i => by rw [Bool.or_false]⟩
  unfold j_M_reach_88 j_M_reach_104
  by_cases h4 : wy a j < 4
  · rw [if_neg (show ¬ ¬ rr a * rr a + rr j * rr j = 1 by rw [e1]; exact fun h => h h4)]
    have h8 : wy a j < 8 := by omega
    simp only [h4, if_true, h8, decide_true, Bool.true_and]
    by_cases k4 : k = 4
    · rw [if_pos k4]
      simp only [k4, or_true, decide_true, Bool.true_and]
      exact pu_r120 fu hfu gg Q _ s a j hs ha hj h8 l3
    · rw [if_neg k4]
      by_cases k5 : k = 5
      · rw [if_pos k5]
        simp only [k5, true_or, decide_true, Bool.true_and]
        exact pu_r120 fu hfu gg Q _ s a j hs ha hj h8 l3
      · rw [if_neg k5, if_pos (show ¬ rr a * rr a + rr j * rr j = 2 by rw [e2]; omega)]
        simp only [k4, k5, or_self, decide_false, Bool.false_and]
        exact no
  · rw [if_pos (show ¬ rr a * rr a + rr j * rr j = 1 by rw [e1]; exact h4)]
    by_cases h8 : wy a j < 8
    · rw [if_neg (show ¬ ¬ rr a * rr a + rr j * rr j = 2 by rw [e2]; omega)]
      simp only [h4, if_false, h8, decide_true, Bool.true_and]
      by_cases k3 : k = 3
      · rw [if_pos k3]
        simp only [k3, or_true, decide_true, Bool.true_and]
        exact pu_r120 fu hfu gg Q _ s a j hs ha hj h8 l3
      · rw [if_neg k3]
        by_cases k5 : k = 5
        · rw [if_neg (fun h => h k5)]
          simp only [k5, true_or, decide_true, Bool.true_and]
          exact pu_r120 fu hfu gg Q _ s a j hs ha hj h8 l3
        · rw [if_pos k5]
          simp only [k3, k5, or_self, decide_false, Bool.false_and]
          exact no
    · rw [if_pos (show ¬ rr a * rr a + rr j * rr j = 2 by rw [e2]; omega)]
      simp only [h8, decide_false, Bool.false_and]
      exact no
theorem pu_r74 (fu : Nat) (hfu : 8 < fu) (gg : Int64 → Int32 → Option Int64) (Q : PoT) (k : Int32) (s a j : Nat) (hs : s < 64) (ha : a < 5) (hj : j < 5) (hw : wy a j < 16) (l3 : Int64) : ∃ l', j_M_reach_74 fu gg Q (nI s) k l3 (rr a) (rr j) (rr a * rr a + rr j * rr j) = gg l' (rr (j + 1)) ∧ ∀ i, bt l' i = (bt l3 i || (decide (i ∈ upto (po_men Q) (ryf 1 (wy a j) s)) || (decide (wy a j < 8) && decide (k = 5 ∨ k = if wy a j < 4 then 4 else 3) && decide (i ∈ upto (po_men Q) (ryf 7 (wy a j) s))))) := by
  obtain ⟨f1, f2⟩ := (wy_fin ⟨a, ha⟩ ⟨j, hj⟩).1 hw
  simp only at f1 f2
  unfold j_M_reach_74
  obtain ⟨l1, e1, e2⟩ := pu_sbit hw hs (po_men Q)
  obtain ⟨l2, e3, e4⟩ := pu_r88 fu hfu gg Q k s a j hs ha hj (l3 ||| l1)
  rw [show f_M_step (nI s) (rr a) (rr j) = some (nx (wy a j) s) from by rw [← f1, ← f2]; exact pu_step hw hs]
  refine ⟨l2, ?_, fun i => by rw [e4 i, bt_or, e2 i, Bool.or_assoc]⟩
  show (f_M_bit (nx (wy a j) s)).bind _ = _
  rw [e1]
  exact e3
theorem pu_b26 (fu : Nat) (hfu : 8 < fu) (gg : Int64 → Int32 → Option Int64) (Q : PoT) (k : Int32) (s a j : Nat) (hs : s < 64) (ha : a < 5) (hj : j < 5) (l3 : Int64) : ∃ l', b_M_reach_26 fu Q (nI s) k (rr a) gg l3 (rr j) = gg l' (rr (j + 1)) ∧ ∀ i, bt l' i = (bt l3 i || gw (po_men Q) k (wy a j) s i) := by
  obtain ⟨-, e5, e1, e2⟩ := wy_fin ⟨a, ha⟩ ⟨j, hj⟩
  simp only at e5 e1 e2
  have A := pu_r88 fu hfu gg Q k s a j hs ha hj l3
  unfold b_M_reach_26 j_M_reach_56 gw
  rw [if_neg (rr_gt ⟨j, hj⟩)]
  by_cases h8 : wy a j < 8
  · have B := pu_r74 fu hfu gg Q k s a j hs ha hj (by omega) l3
    have n5 : ¬ rr a * rr a + rr j * rr j = 5 := by rw [e5]; omega
    simp only [if_pos h8]
    rw [if_neg n5]
    by_cases k6 : k = 6
    · have k2 : ¬ k = 2 := by rw [k6]; decide
      rw [if_pos k2, if_neg (fun h => h k6)]
      simp only [h8, decide_true, Bool.true_and] at B
      simp only [k6, decide_true, Bool.true_and] at B ⊢
      by_cases h4 : wy a j < 4
      · rw [if_pos (show rr a * rr a + rr j * rr j = 1 by rw [e1]; exact h4)]
        exact B
      · rw [if_neg (show ¬ rr a * rr a + rr j * rr j = 1 by rw [e1]; exact h4), if_neg (show ¬ ¬ rr a * rr a + rr j * rr j = 2 by rw [e2]; omega)]
        exact B
    · rw [if_pos k6]
      simp only [h8, decide_true, Bool.true_and] at A
      simp only [k6, decide_false, Bool.false_and, Bool.false_or]
      by_cases k2 : k = 2
      · rw [if_neg (fun h => h k2)]; exact A
      · rw [if_pos k2]; exact A
  · simp only [if_neg h8]
    simp only [h8, decide_false, Bool.false_and] at A
    have n1 : ¬ rr a * rr a + rr j * rr j = 1 := by rw [e1]; omega
    have n2 : ¬ rr a * rr a + rr j * rr j = 2 := by rw [e2]; omega
    rw [if_neg n1, if_pos n2]
    by_cases h16 : wy a j < 16
    · have B := pu_r74 fu hfu gg Q k s a j hs ha hj h16 l3
      simp only [h8, decide_false, Bool.false_and, Bool.or_false] at B
      simp only [if_pos h16]
      by_cases k2 : k = 2
      · rw [if_neg (fun h => h k2), if_pos (show rr a * rr a + rr j * rr j = 5 by rw [e5]; omega)]
        simp only [k2, decide_true, Bool.true_and] at B ⊢
        exact B
      · rw [if_pos k2]
        simp only [k2, decide_false, Bool.false_and]
        by_cases k6 : k = 6
        · rw [if_neg (fun h => h k6)]; exact A
        · rw [if_pos k6]; exact A
    · simp only [if_neg h16]
      have n5 : ¬ rr a * rr a + rr j * rr j = 5 := by rw [e5]; omega
      rw [if_neg n5]
      by_cases k2 : k = 2
      · rw [if_neg (fun h => h k2)]
        by_cases k6 : k = 6
        · rw [if_neg (fun h => h k6)]; exact A
        · rw [if_pos k6]; exact A
      · rw [if_pos k2]
        by_cases k6 : k = 6
        · rw [if_neg (fun h => h k6)]; exact A
        · rw [if_pos k6]; exact A
