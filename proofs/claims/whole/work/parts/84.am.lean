/-! WHAT IS ATTACKED: the reference's side -/
def rr (j : Nat) : Int32 := nI j - 2
theorem rr_1 (j : Nat) : rr j + 1 = rr (j + 1) := by
  unfold rr
  rw [← nI_1, Int32.sub_eq_add_neg, Int32.sub_eq_add_neg, Int32.add_assoc, Int32.add_assoc, Int32.add_comm (-2) 1]
/-- the way that goes so many files and ranks -/
def wy (i j : Nat) : Nat := ([[16, 13, 16, 14, 16], [12, 7, 3, 5, 15], [16, 1, 16, 0, 16], [11, 6, 2, 4, 8], [16, 10, 16, 9, 16]].getD i []).getD j 16
theorem step_fin : ∀ w : Fin 16, ∀ s : Fin 64, f_M_step (nI s) (tb_FILE_STEP w) (tb_RANK_STEP w) = some (nx w s) := by decide +kernel
theorem pu_step {w s : Nat} (hw : w < 16) (hs : s < 64) : f_M_step (nI s) (tb_FILE_STEP w) (tb_RANK_STEP w) = some (nx w s) := step_fin ⟨w, hw⟩ ⟨s, hs⟩
theorem ry_all : ∀ w : Fin 8, ∀ s : Fin 64, ryf 8 w s = ryf 7 w s := by decide +kernel
/-- the square of the first man -/
def hsq (m : Nat → Int32) : List Nat → Option Nat
  | [] => none
  | t :: l => if m t = 0 then hsq m l else some t
theorem hsq_hit (m : Nat → Int32) : ∀ (l : List Nat) (i : Nat), (hit m l i).map (fun q => q.2) = (hsq m l).map m
  | [], _ => rfl
  | t :: l, i => by
    unfold hit hsq
    by_cases h : m t = 0
    · rw [if_pos h, if_pos h]; exact hsq_hit m l (i + 1)
    · rw [if_neg h, if_neg h]; rfl
theorem hsq_mem {m : Nat → Int32} : ∀ {l : List Nat} {t : Nat}, hsq m l = some t → t ∈ l ∧ m t ≠ 0
  | [], _, h => by cases h
  | u :: l, t, h => by
    unfold hsq at h
    by_cases hz : m u = 0
    · rw [if_pos hz] at h
      exact ⟨List.mem_cons_of_mem _ (hsq_mem h).1, (hsq_mem h).2⟩
    · rw [if_neg hz] at h
      cases h
      exact ⟨List.mem_cons_self, hz⟩
theorem pu_f8 (fu : Nat) (Q : PoT) (w : Nat) (hw : w < 16) : ∀ (f s n : Nat), s < 64 → ryf (f + 1) w s = ryf f w s → f < n → l_M_firstMan_8 fu Q (tb_FILE_STEP w) (tb_RANK_STEP w) n (nx w s) = some (match hsq (po_men Q) (ryf f w s) with
    | some t => nI t
    | none => -1) := by
  intro f
  induction f with
  | zero =>
    intro s n hs hr hn
    obtain ⟨n, rfl⟩ : ∃ m, n = m + 1 := ⟨n - 1, by omega⟩
    show b_M_firstMan_8 fu Q _ _ _ (nx w s) = _
    unfold b_M_firstMan_8
    rcases nx_cases hw hs with h | ⟨t, ht, h⟩
    · rw [h, if_pos (by decide)]; rfl
    · exfalso
      unfold ryf at hr
      rw [h, if_neg (nI_pos (by omega))] at hr
      cases hr
  | succ f ih =>
    intro s n hs hr hn
    obtain ⟨n, rfl⟩ : ∃ m, n = m + 1 := ⟨n - 1, by omega⟩
    show b_M_firstMan_8 fu Q _ _ (l_M_firstMan_8 fu Q (tb_FILE_STEP w) (tb_RANK_STEP w) n) (nx w s) = _
    unfold b_M_firstMan_8
    unfold ryf at hr ⊢
    rcases nx_cases hw hs with h | ⟨t, ht, h⟩
    · rw [h, if_pos (by decide), if_pos (by decide)]; rfl
    · rw [h, if_neg (nI_pos (by omega)), nI_clamp (by omega), if_neg (nI_pos (by omega))] at hr
      rw [h, if_neg (nI_pos (by omega)), if_pos (pu_in ht (by decide)), nI_clamp (by omega), if_neg (nI_pos (by omega))]
      unfold hsq
      by_cases hm : po_men Q t = 0
      · rw [if_neg (fun h => h hm), if_pos hm, pu_step hw ht]
        exact ih t n ht (List.cons.inj hr).2 (by omega)
      · rw [if_pos hm, if_neg hm]
/-- the first man that way, or nobody -/
def fm (m : Nat → Int32) (w s : Nat) : Int32 := match hsq m (ryf 7 w s) with
  | some t => m t
  | none => 0
theorem pu_first (fu : Nat) (Q : PoT) {w s : Nat} (hw : w < 8) (hs : s < 64) (hfu : 7 < fu) : f_M_firstMan fu (nI s) (tb_FILE_STEP w) (tb_RANK_STEP w) Q = some (fm (po_men Q) w s) := by
  unfold f_M_firstMan
  rw [pu_step (by omega) hs]
  show (l_M_firstMan_8 fu Q _ _ fu (nx w s)).bind _ = _
  rw [pu_f8 fu Q w (by omega) 7 s fu hs (ry_all ⟨w, hw⟩ ⟨s, hs⟩) hfu]
  unfold fm
  cases hq : hsq (po_men Q) (ryf 7 w s) with
  | none => rfl
  | some t =>
    have ht := (ryf_lt 7 (by omega) hs).1 t (hsq_mem hq).1
    show j_M_firstMan_35 fu Q (nI t) = some (po_men Q t)
    unfold j_M_firstMan_35
    rw [if_pos (nI_pos' (by omega)), if_pos (pu_in ht (by decide)), nI_clamp (by omega)]
/-- is there that man, one step that way? -/
def nm (m : Nat → Int32) (w s : Nat) (x : Int32) : Bool := decide (¬ nx w s < 0 ∧ m (nx w s).toNatClampNeg = x)
theorem pu_has (Q : PoT) {w s : Nat} (hw : w < 16) (hs : s < 64) (x : Int32) : f_M_hasMan (nx w s) x Q = some (cond (nm (po_men Q) w s x) 1 0) := by
  unfold f_M_hasMan nm
  rcases nx_cases hw hs with h | ⟨t, ht, h⟩
  · rw [h, if_pos (by decide)]
    simp only [show ((-1 : Int32) < 0) = True from by simp, not_true_eq_false, false_and, decide_false, cond_false]
  · rw [h, if_neg (nI_pos (by omega)), if_pos (pu_in ht (by decide)), nI_clamp (by omega)]
    by_cases hk : po_men Q t = x
    · rw [if_neg (fun h => h hk)]
      simp [hk, nI_pos (n := t) (by omega)]
    · rw [if_pos hk]
      simp [hk]
/-- what the reference asks in that way -/
def rk (m : Nat → Int32) (c w s : Nat) : Bool :=
  if w < 8 then (decide (fm m w s = 5 + 8 * nI c) || decide (fm m w s = (if w < 4 then 4 else 3) + 8 * nI c) || nm m w s (6 + 8 * nI c)) else if w < 16 then nm m w s (2 + 8 * nI c) else false
theorem wy_fin : ∀ i : Fin 5, ∀ j : Fin 5, (wy i j < 16 → tb_FILE_STEP (wy i j) = rr i ∧ tb_RANK_STEP (wy i j) = rr j) ∧ ((rr i * rr i + rr j * rr j = 5) = (8 ≤ wy i j ∧ wy i j < 16)) ∧ ((rr i * rr i + rr j * rr j = 1) = (wy i j < 4)) ∧ ((rr i * rr i + rr j * rr j = 2) = (4 ≤ wy i j ∧ wy i j < 8)) := by decide +kernel
theorem rr_gt : ∀ j : Fin 5, ¬ (2 : Int32) < rr j := by decide +kernel
theorem pu_cnd (b : Bool) : ((cond b (1 : Int32) 0) = 0) = (b = false) := by cases b <;> simp
theorem pu_m155 (fu : Nat) (gg : Int32 → Option (Unit ⊕ Int32)) (Q : PoT) (c s i j : Nat) (hs : s < 64) (hi : i < 5) (hj : j < 5) (hw : wy i j < 16) (y z : Int32) : j_M_isAttacked_155 fu gg Q (nI s) (8 * nI c) (rr i) (rr j) y z = cond (decide (y = z + 8 * nI c) || nm (po_men Q) (wy i j) s (6 + 8 * nI c)) (some (.inr 1)) (gg (rr (j + 1))) := by
  unfold j_M_isAttacked_155 j_M_isAttacked_181
  obtain ⟨⟨e1, e2⟩, -⟩ := And.intro ((wy_fin ⟨i, hi⟩ ⟨j, hj⟩).1 hw) trivial
  by_cases h : y = z + 8 * nI c
  · rw [if_pos h]; simp [h]
  · rw [if_neg h, show rr i = tb_FILE_STEP (wy i j) from e1.symm, show f_M_step (nI s) (tb_FILE_STEP (wy i j)) (rr j) = some (nx (wy i j) s) from by rw [show rr j = tb_RANK_STEP (wy i j) from e2.symm]; exact pu_step hw hs]
    show (f_M_hasMan (nx (wy i j) s) _ Q).bind _ = _
    rw [pu_has Q hw hs]
    show (if (cond (nm (po_men Q) (wy i j) s (6 + 8 * nI c)) (1 : Int32) 0) = 0 then gg (rr j + 1) else some (.inr 1)) = _
    rw [rr_1]
    cases nm (po_men Q) (wy i j) s (6 + 8 * nI c) <;> simp [h]
theorem pu_b66 (fu : Nat) (hfu : 7 < fu) (gg : Int32 → Option (Unit ⊕ Int32)) (Q : PoT) (c s i j : Nat) (hs : s < 64) (hi : i < 5) (hj : j < 5) : b_M_isAttacked_66 fu Q (nI s) (8 * nI c) (rr i) gg (rr j) = cond (rk (po_men Q) c (wy i j) s) (some (.inr 1)) (gg (rr (j + 1))) := by
  unfold b_M_isAttacked_66
  rw [if_neg (rr_gt ⟨j, hj⟩)]
  obtain ⟨e0, e5, e1, e2⟩ := wy_fin ⟨i, hi⟩ ⟨j, hj⟩
  simp only at e0 e5 e1 e2
  by_cases h5 : 8 ≤ wy i j ∧ wy i j < 16
  · rw [if_neg (show ¬ ¬ rr i * rr i + rr j * rr j = 5 by rw [e5]; exact fun h => h h5)]
    obtain ⟨f1, f2⟩ := e0 h5.2
    rw [show f_M_step (nI s) (rr i) (rr j) = some (nx (wy i j) s) from by rw [← f1, ← f2]; exact pu_step h5.2 hs]
    show (f_M_hasMan (nx (wy i j) s) _ Q).bind _ = _
    rw [pu_has Q h5.2 hs]
    show (if (cond (nm (po_men Q) (wy i j) s (2 + 8 * nI c)) (1 : Int32) 0) = 0 then j_M_isAttacked_111 fu gg Q (nI s) (8 * nI c) (rr i) (rr j) (rr i * rr i + rr j * rr j) else some (.inr 1)) = _
    have k : rk (po_men Q) c (wy i j) s = nm (po_men Q) (wy i j) s (2 + 8 * nI c) := by
      unfold rk
      rw [if_neg (by omega), if_pos h5.2]
    have g : j_M_isAttacked_111 fu gg Q (nI s) (8 * nI c) (rr i) (rr j) (rr i * rr i + rr j * rr j) = gg (rr (j + 1)) := by
      unfold j_M_isAttacked_111 j_M_isAttacked_181
      rw [if_neg (show ¬ rr i * rr i + rr j * rr j = 1 by rw [e1]; omega), if_pos (show ¬ rr i * rr i + rr j * rr j = 2 by rw [e2]; omega), rr_1]
    rw [k, g]
    cases nm (po_men Q) (wy i j) s (2 + 8 * nI c) <;> simp
  · rw [if_pos (show ¬ rr i * rr i + rr j * rr j = 5 by rw [e5]; exact h5)]
    unfold j_M_isAttacked_111
    by_cases h8 : wy i j < 8
    · have g : j_M_isAttacked_123 fu gg Q (nI s) (8 * nI c) (rr i) (rr j) (rr i * rr i + rr j * rr j) = cond (rk (po_men Q) c (wy i j) s) (some (.inr 1)) (gg (rr (j + 1))) := by
        obtain ⟨f1, f2⟩ := e0 (by omega)
        unfold j_M_isAttacked_123
        rw [show f_M_firstMan fu (nI s) (rr i) (rr j) Q = some (fm (po_men Q) (wy i j) s) from by rw [← f1, ← f2]; exact pu_first fu Q h8 hs hfu]
        show (if fm (po_men Q) (wy i j) s = 5 + 8 * nI c then (some (.inr 1) : Option (Unit ⊕ Int32)) else if ¬ rr i * rr i + rr j * rr j = 1 then j_M_isAttacked_155 fu gg Q (nI s) (8 * nI c) (rr i) (rr j) (fm (po_men Q) (wy i j) s) 3 else j_M_isAttacked_155 fu gg Q (nI s) (8 * nI c) (rr i) (rr j) (fm (po_men Q) (wy i j) s) 4) = _
        rw [pu_m155 fu gg Q c s i j hs hi hj (by omega), pu_m155 fu gg Q c s i j hs hi hj (by omega)]
        unfold rk
        rw [if_pos h8]
        by_cases h4 : wy i j < 4
        · rw [if_neg (show ¬ ¬ rr i * rr i + rr j * rr j = 1 by rw [e1]; exact fun h => h h4)]
          by_cases hq : fm (po_men Q) (wy i j) s = 5 + 8 * nI c <;> simp [hq, h4]
        · rw [if_pos (show ¬ rr i * rr i + rr j * rr j = 1 by rw [e1]; exact h4)]
          by_cases hq : fm (po_men Q) (wy i j) s = 5 + 8 * nI c <;> simp [hq, h4]
      by_cases h4 : wy i j < 4
      · rw [if_pos (show rr i * rr i + rr j * rr j = 1 by rw [e1]; exact h4), g]
      · rw [if_neg (show ¬ rr i * rr i + rr j * rr j = 1 by rw [e1]; exact h4), if_neg (show ¬ ¬ rr i * rr i + rr j * rr j = 2 by rw [e2]; omega), g]
    · rw [if_neg (show ¬ rr i * rr i + rr j * rr j = 1 by rw [e1]; omega), if_pos (show ¬ rr i * rr i + rr j * rr j = 2 by rw [e2]; omega)]
      unfold j_M_isAttacked_181
      have k : rk (po_men Q) c (wy i j) s = false := by
        unfold rk
        rw [if_neg h8, if_neg (by omega)]
      rw [k, rr_1]
      rfl
theorem pu_l66 (fu : Nat) (hfu : 7 < fu) (Q : PoT) (c s i : Nat) (hs : s < 64) (hi : i < 5) : ∀ (k n : Nat), k ≤ 5 → k < n → l_M_isAttacked_66 fu Q (nI s) (8 * nI c) (rr i) n (rr (5 - k)) = some (cond ((List.range' (5 - k) k).any (fun j => rk (po_men Q) c (wy i j) s)) (.inr 1) (.inl ())) := by
  intro k
  induction k with
  | zero =>
    intro n _ hn
    obtain ⟨n, rfl⟩ : ∃ m, n = m + 1 := ⟨n - 1, by omega⟩
    show b_M_isAttacked_66 fu Q (nI s) (8 * nI c) (rr i) _ (rr 5) = _
    unfold b_M_isAttacked_66
    rw [if_pos (by decide)]
    rfl
  | succ k ih =>
    intro n hk hn
    obtain ⟨n, rfl⟩ : ∃ m, n = m + 1 := ⟨n - 1, by omega⟩
    have ih := ih n (by omega) (by omega)
    generalize hj : 5 - (k + 1) = j
    rw [show 5 - k = j + 1 by omega] at ih
    show b_M_isAttacked_66 fu Q (nI s) (8 * nI c) (rr i) (l_M_isAttacked_66 fu Q (nI s) (8 * nI c) (rr i) n) (rr j) = _
    rw [pu_b66 fu hfu _ Q c s i j hs hi (by omega), ih, List.range'_succ, List.any_cons]
    cases rk (po_men Q) c (wy i j) s <;> rfl
/-- .. in all ways with so many files -/
def rkr (m : Nat → Int32) (c i s : Nat) : Bool := (List.range' 0 5).any (fun j => rk m c (wy i j) s)
theorem pu_l56 (fu : Nat) (hfu : 7 < fu) (Q : PoT) (c s : Nat) (hs : s < 64) : ∀ (k n : Nat), k ≤ 5 → k < n → l_M_isAttacked_56 fu Q (nI s) (8 * nI c) n (rr (5 - k)) = some (cond ((List.range' (5 - k) k).any (fun i => rkr (po_men Q) c i s)) 1 0) := by
  intro k
  induction k with
  | zero =>
    intro n _ hn
    obtain ⟨n, rfl⟩ : ∃ m, n = m + 1 := ⟨n - 1, by omega⟩
    show b_M_isAttacked_56 fu Q (nI s) (8 * nI c) _ (rr 5) = _
    unfold b_M_isAttacked_56
    rw [if_pos (by decide)]
    rfl
  | succ k ih =>
    intro n hk hn
    obtain ⟨n, rfl⟩ : ∃ m, n = m + 1 := ⟨n - 1, by omega⟩
    have ih := ih n (by omega) (by omega)
    generalize hj : 5 - (k + 1) = i
    rw [show 5 - k = i + 1 by omega] at ih
    show b_M_isAttacked_56 fu Q (nI s) (8 * nI c) (l_M_isAttacked_56 fu Q (nI s) (8 * nI c) n) (rr i) = _
    unfold b_M_isAttacked_56 j_M_isAttacked_187
    rw [if_neg (rr_gt ⟨i, by omega⟩), show (-2 : Int32) = rr (5 - 5) from rfl, pu_l66 fu hfu Q c s i hs (by omega) 5 fu (by omega) (by omega), show ((List.range' (5 - 5) 5).any fun j => rk (po_men Q) c (wy i j) s) = rkr (po_men Q) c i s from rfl, List.range'_succ, List.any_cons, rr_1, ih]
    cases rkr (po_men Q) c i s <;> rfl
