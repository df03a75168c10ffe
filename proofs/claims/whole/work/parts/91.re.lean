/-! .. in all ways -/
def gwr (m : Nat → Int32) (k : Int32) (a s i : Nat) : Bool := (List.range' 0 5).any (fun j => gw m k (wy a j) s i)
theorem pu_l26 (fu : Nat) (hfu : 8 < fu) (Q : PoT) (k : Int32) (s a : Nat) (hs : s < 64) (ha : a < 5) : ∀ (z n : Nat) (l3 : Int64), z ≤ 5 → z < n → ∃ l', l_M_reach_26 fu Q (nI s) k (rr a) n l3 (rr (5 - z)) = some l' ∧ ∀ i, bt l' i = (bt l3 i || (List.range' (5 - z) z).any (fun j => gw (po_men Q) k (wy a j) s i)) := by
  intro z
  induction z with
  | zero =>
    intro n l3 _ hn
    obtain ⟨n, rfl⟩ : ∃ m, n = m + 1 := ⟨n - 1, by omega⟩
    refine ⟨l3, ?_, fun i => by simp⟩
    show b_M_reach_26 fu Q (nI s) k (rr a) _ l3 (rr 5) = _
    unfold b_M_reach_26
    rw [if_pos (by decide)]
  | succ z ih =>
    intro n l3 hz hn
    obtain ⟨n, rfl⟩ : ∃ m, n = m + 1 := ⟨n - 1, by omega⟩
    obtain ⟨l1, e1, e2⟩ := pu_b26 fu hfu (l_M_reach_26 fu Q (nI s) k (rr a) n) Q k s a (5 - (z + 1)) hs ha (by omega) l3
    obtain ⟨l2, e3, e4⟩ := ih n l1 (by omega) (by omega)
    rw [show 5 - (z + 1) + 1 = 5 - z by omega] at e1
    refine ⟨l2, e1.trans e3, fun i => ?_⟩
    rw [e4 i, e2 i, List.range'_succ, List.any_cons, show 5 - (z + 1) + 1 = 5 - z by omega, Bool.or_assoc]
theorem pu_l16r (fu : Nat) (hfu : 8 < fu) (Q : PoT) (k : Int32) (s : Nat) (hs : s < 64) : ∀ (z n : Nat) (l3 : Int64), z ≤ 5 → z < n → ∃ l', l_M_reach_16 fu Q (nI s) k n l3 (rr (5 - z)) = some l' ∧ ∀ i, bt l' i = (bt l3 i || (List.range' (5 - z) z).any (fun a => gwr (po_men Q) k a s i)) := by
  intro z
  induction z with
  | zero =>
    intro n l3 _ hn
    obtain ⟨n, rfl⟩ : ∃ m, n = m + 1 := ⟨n - 1, by omega⟩
    refine ⟨l3, ?_, fun i => by simp⟩
    show b_M_reach_16 fu Q (nI s) k _ l3 (rr 5) = _
    unfold b_M_reach_16
    rw [if_pos (by decide)]
  | succ z ih =>
    intro n l3 hz hn
    obtain ⟨n, rfl⟩ : ∃ m, n = m + 1 := ⟨n - 1, by omega⟩
    obtain ⟨l1, e1, e2⟩ := pu_l26 fu hfu Q k s (5 - (z + 1)) hs (by omega) 5 fu l3 (by omega) (by omega)
    obtain ⟨l2, e3, e4⟩ := ih n l1 (by omega) (by omega)
    refine ⟨l2, ?_, fun i => ?_⟩
    · show b_M_reach_16 fu Q (nI s) k (l_M_reach_16 fu Q (nI s) k n) l3 (rr (5 - (z + 1))) = _
      unfold b_M_reach_16 j_M_reach_138
      rw [if_neg (rr_gt ⟨5 - (z + 1), by omega⟩), show (-2 : Int32) = rr (5 - 5) from rfl, e1]
      show l_M_reach_16 fu Q (nI s) k n l1 (rr (5 - (z + 1)) + 1) = _
      rw [rr_1, show 5 - (z + 1) + 1 = 5 - z by omega]
      exact e3
    · rw [e4 i, e2 i, show ((List.range' (5 - 5) 5).any fun j => gw (po_men Q) k (wy (5 - (z + 1)) j) s i) = gwr (po_men Q) k (5 - (z + 1)) s i from rfl, List.range'_succ, List.any_cons, show 5 - (z + 1) + 1 = 5 - z by omega, Bool.or_assoc]
theorem gwr_any (m : Nat → Int32) (k : Int32) (s i : Nat) : ((List.range' 0 5).any (fun a => gwr m k a s i)) = ((List.range' 0 16).any (fun w => gw m k w s i)) := by
  rw [Bool.eq_iff_iff, List.any_eq_true, List.any_eq_true]
  constructor
  · rintro ⟨a, -, h⟩
    obtain ⟨j, -, h⟩ := List.any_eq_true.mp h
    by_cases hw : wy a j < 16
    · exact ⟨wy a j, List.mem_range'_1.mpr ⟨Nat.zero_le _, by omega⟩, h⟩
    · unfold gw at h
      rw [if_neg (by omega), if_neg hw] at h
      cases h
  · rintro ⟨w, hw, h⟩
    have hw := (List.mem_range'_1.mp hw).2
    obtain ⟨a, j, e⟩ := wy_onto ⟨w, by omega⟩
    refine ⟨a, List.mem_range'_1.mpr ⟨Nat.zero_le _, by omega⟩, List.any_eq_true.mpr ⟨j, List.mem_range'_1.mpr ⟨Nat.zero_le _, by omega⟩, ?_⟩⟩
    rw [e]
    exact h
theorem pu_reach (fu : Nat) (hfu : 8 < fu) (Q : PoT) (s : Nat) (hs : s < 64) : ∃ l', f_M_reach fu (nI s) Q = some l' ∧ ∀ i, bt l' i = (List.range' 0 16).any (fun w => gw (po_men Q) (po_men Q s &&& 7) w s i) := by
  unfold f_M_reach f_M_kind
  rw [if_pos (pu_in hs (by decide)), nI_clamp (by omega)]
  obtain ⟨l', e1, e2⟩ := pu_l16r fu hfu Q (po_men Q s &&& 7) s hs 5 fu 0 (by omega) (by omega)
  exact ⟨l', e1, fun i => by rw [e2 i, bt_0, Bool.false_or, ← gwr_any]⟩
