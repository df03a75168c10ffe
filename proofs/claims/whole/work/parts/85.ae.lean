/-! BOTH SIDES' WORD OF WHAT IS ATTACKED IS ONE -/
/-- the ways in which a pawn stands from what it attacks -/
def pwb (c w : Nat) : Bool := decide ((c = 0 ∧ (w = 6 ∨ w = 7)) ∨ (c = 1 ∧ (w = 4 ∨ w = 5)))
theorem tab_fin : ∀ k : Fin 16, ∀ c : Fin 2, ∀ w : Fin 8, ∀ z : Bool, decide (nI k >>> ((3 : Int32) &&& 31) = nI c ∧ ¬ ((if z = true then tb_NEAR (nI k).toNatClampNeg else tb_FAR (nI k).toNatClampNeg) >>> (nI w &&& 31) &&& 1) = 0) = ((z && decide (nI k = 1 + 8 * nI c) && pwb c w) || (decide (nI k = 5 + 8 * nI c) || decide (nI k = (if w.val < 4 then 4 else 3) + 8 * nI c) || (z && decide (nI k = 6 + 8 * nI c)))) := by decide +kernel
theorem c8_fin : ∀ c : Fin 2, ¬ (1 + 8 * nI c = (0 : Int32)) ∧ ¬ (2 + 8 * nI c = (0 : Int32)) ∧ ¬ (3 + 8 * nI c = (0 : Int32)) ∧ ¬ (4 + 8 * nI c = (0 : Int32)) ∧ ¬ (5 + 8 * nI c = (0 : Int32)) ∧ ¬ (6 + 8 * nI c = (0 : Int32)) := by decide +kernel
theorem nm_hit (m : Nat → Int32) {w s : Nat} (hw : w < 16) (hs : s < 64) {x : Int32} (hx : x ≠ 0) : nm m w s x = match hit m (ryf 7 w s) 0 with
    | some (far, man) => decide (far = 0) && decide (man = x)
    | none => false := by
  unfold nm
  show _ = match hit m (ryf (6 + 1) w s) 0 with
    | some (far, man) => decide (far = 0) && decide (man = x)
    | none => false
  unfold ryf
  rcases nx_cases hw hs with h | ⟨t, ht, h⟩
  · rw [h, if_pos (show (-1 : Int32) < 0 by decide)]
    simp [hit]
  · rw [h, if_neg (nI_pos (by omega)), nI_clamp (by omega)]
    unfold hit
    by_cases hm : m t = 0
    · rw [if_pos hm, decide_eq_false (fun q => hx (by rw [← q.2, hm]))]
      cases hh : hit m (ryf 6 w t) (0 + 1) with
      | none => rfl
      | some q =>
        obtain ⟨far, man⟩ := q
        have : ∀ (l : List Nat) (i : Nat) {far : Nat} {man : Int32}, hit m l i = some (far, man) → i ≤ far := by
          intro l
          induction l with
          | nil => intro i far man h; cases h
          | cons t l ih =>
            intro i far man h
            unfold hit at h
            split at h
            · have := ih _ h; omega
            · cases h; exact Nat.le_refl _
        have := this _ _ hh
        show false = (decide (far = 0) && decide (man = x))
        rw [decide_eq_false (show ¬ far = 0 by omega)]
        rfl
    · rw [if_neg hm]
      simp [nI_pos (n := t) (by omega)]
theorem at_ln_rk {m : Nat → Int32} (hm : okm m) {c w s : Nat} (hc : c < 2) (hw : w < 8) (hs : s < 64) : at_ln m c w s = ((nm m w s (1 + 8 * nI c) && pwb c w) || rk m c w s) := by
  obtain ⟨c1, c2, c3, c4, c5, c6⟩ := c8_fin ⟨c, hc⟩
  simp only at c1 c2 c3 c4 c5 c6
  unfold rk
  rw [if_pos hw, nm_hit m (by omega) hs c1, nm_hit m (by omega) hs c6]
  unfold at_ln fm
  have hq := hsq_hit m (ryf 7 w s) 0
  cases hh : hit m (ryf 7 w s) 0 with
  | none =>
    rw [hh] at hq
    cases hz : hsq m (ryf 7 w s) with
    | some t => rw [hz] at hq; cases hq
    | none =>
      have e5 : ¬ (0 : Int32) = 5 + 8 * nI c := fun h => c5 h.symm
      have e4 : ¬ (0 : Int32) = (if w < 4 then 4 else 3) + 8 * nI c := by
        split
        · exact fun h => c4 h.symm
        · exact fun h => c3 h.symm
      simp only [at_hit, decide_eq_false e5, decide_eq_false e4]
      rfl
  | some q =>
    obtain ⟨far, man⟩ := q
    rw [hh] at hq
    cases hz : hsq m (ryf 7 w s) with
    | none => rw [hz] at hq; cases hq
    | some t =>
      rw [hz] at hq
      have e : man = m t := Option.some.inj hq
      obtain ⟨h1, -⟩ := hit_men hm _ 0 (ryf_lt 7 (by omega) hs).1 hh
      obtain ⟨k, hk, rfl⟩ := pu_inf h1 (by decide)
      have T := tab_fin ⟨k, hk⟩ ⟨c, hc⟩ ⟨w, hw⟩ (decide (far = 0))
      simp only [decide_eq_true_eq] at T
      simp only [at_hit, ← e]
      rw [T]
theorem wy_onto : ∀ w : Fin 16, ∃ i : Fin 5, ∃ j : Fin 5, wy i j = w := by decide +kernel
theorem rkr_any (m : Nat → Int32) (c s : Nat) : ((List.range' 0 5).any (fun i => rkr m c i s)) = ((List.range' 0 16).any (fun w => rk m c w s)) := by
  rw [Bool.eq_iff_iff, List.any_eq_true, List.any_eq_true]
  constructor
  · rintro ⟨i, -, h⟩
    obtain ⟨j, -, h⟩ := List.any_eq_true.mp h
    by_cases hw : wy i j < 16
    · exact ⟨wy i j, List.mem_range'_1.mpr ⟨Nat.zero_le _, by omega⟩, h⟩
    · unfold rk at h
      rw [if_neg (by omega), if_neg hw] at h
      cases h
  · rintro ⟨w, hw, h⟩
    have hw := (List.mem_range'_1.mp hw).2
    obtain ⟨i, j, e⟩ := wy_onto ⟨w, by omega⟩
    refine ⟨i, List.mem_range'_1.mpr ⟨Nat.zero_le _, by omega⟩, List.any_eq_true.mpr ⟨j, List.mem_range'_1.mpr ⟨Nat.zero_le _, by omega⟩, ?_⟩⟩
    rw [e]
    exact h
def pw1 (c : Nat) : Nat := if c = 0 then 7 else 5
def pw2 (c : Nat) : Nat := if c = 0 then 6 else 4
theorem pu_misA (fu : Nat) (hfu : 7 < fu) (Q : PoT) (c s : Nat) (hc : c < 2) (hs : s < 64) : f_M_isAttacked fu (nI s) (nI c) Q = some (cond (nm (po_men Q) (pw1 c) s (1 + 8 * nI c) || (nm (po_men Q) (pw2 c) s (1 + 8 * nI c) || (List.range' 0 5).any (fun i => rkr (po_men Q) c i s))) 1 0) := by
  have g : ∀ z : Int32, (z = if c = 0 then -1 else 1) → j_M_isAttacked_14 fu Q (nI s) (8 * nI c) z = some (cond (nm (po_men Q) (pw1 c) s (1 + 8 * nI c) || (nm (po_men Q) (pw2 c) s (1 + 8 * nI c) || (List.range' 0 5).any (fun i => rkr (po_men Q) c i s))) 1 0) := by
    intro z hz
    have p1 : pw1 c < 16 := by unfold pw1; split <;> decide
    have p2 : pw2 c < 16 := by unfold pw2; split <;> decide
    have e1 : f_M_step (nI s) (-1) z = some (nx (pw1 c) s) := by
      rw [hz]; unfold pw1
      split
      · exact pu_step (w := 7) (by decide) hs
      · exact pu_step (w := 5) (by decide) hs
    have e2 : f_M_step (nI s) 1 z = some (nx (pw2 c) s) := by
      rw [hz]; unfold pw2
      split
      · exact pu_step (w := 6) (by decide) hs
      · exact pu_step (w := 4) (by decide) hs
    unfold j_M_isAttacked_14
    rw [e1]
    show (f_M_hasMan (nx (pw1 c) s) (1 + 8 * nI c) Q).bind _ = _
    rw [pu_has Q p1 hs]
    cases nm (po_men Q) (pw1 c) s (1 + 8 * nI c) with
    | true => rfl
    | false =>
      show (f_M_step (nI s) 1 z).bind _ = _
      rw [e2]
      show (f_M_hasMan (nx (pw2 c) s) (1 + 8 * nI c) Q).bind _ = _
      rw [pu_has Q p2 hs]
      cases nm (po_men Q) (pw2 c) s (1 + 8 * nI c) with
      | true => rfl
      | false =>
        show l_M_isAttacked_56 fu Q (nI s) (8 * nI c) fu (rr (5 - 5)) = _
        rw [pu_l56 fu hfu Q c s hs 5 fu (by omega) (by omega)]
        rfl
  unfold f_M_isAttacked
  by_cases h0 : c = 0
  · subst h0
    rw [if_neg (show ¬ ¬ nI 0 = (0 : Int32) from fun h => h rfl)]
    exact g _ (by rw [if_pos rfl])
  · rw [if_pos (show ¬ nI c = (0 : Int32) from nI_ne0 (by omega) (by omega))]
    exact g _ (by rw [if_neg h0])
theorem pu_isAttacked (fu : Nat) (hfu : 7 < fu) (Q : PoT) (hm : okm (po_men Q)) (c s : Nat) (hc : c < 2) (hs : s < 64) : f_M_isAttacked fu (nI s) (nI c) Q = some (cond (att (po_men Q) c s) 1 0) := by
  rw [pu_misA fu hfu Q c s hc hs, rkr_any]
  congr 2
  rw [Bool.eq_iff_iff]
  unfold att
  simp only [Bool.or_eq_true, List.any_eq_true]
  constructor
  · rintro (h | h | ⟨w, hw, h⟩)
    · refine Or.inr ⟨pw1 c, List.mem_range'_1.mpr ⟨Nat.zero_le _, by unfold pw1; split <;> decide⟩, ?_⟩
      rw [at_ln_rk hm hc (by unfold pw1; split <;> decide) hs, h, show pwb c (pw1 c) = true from by unfold pwb pw1; apply decide_eq_true; split <;> omega]
      rfl
    · refine Or.inr ⟨pw2 c, List.mem_range'_1.mpr ⟨Nat.zero_le _, by unfold pw2; split <;> decide⟩, ?_⟩
      rw [at_ln_rk hm hc (by unfold pw2; split <;> decide) hs, h, show pwb c (pw2 c) = true from by unfold pwb pw2; apply decide_eq_true; split <;> omega]
      rfl
    · have hw := (List.mem_range'_1.mp hw).2
      by_cases h8 : w < 8
      · refine Or.inr ⟨w, List.mem_range'_1.mpr ⟨Nat.zero_le _, by omega⟩, ?_⟩
        rw [at_ln_rk hm hc h8 hs, h, Bool.or_true]
      · refine Or.inl ⟨w, List.mem_range'_1.mpr ⟨by omega, by omega⟩, ?_⟩
        unfold rk at h
        rw [if_neg h8, if_pos (by omega)] at h
        exact h
  · rintro (⟨w, hw, h⟩ | ⟨w, hw, h⟩)
    · have hw := List.mem_range'_1.mp hw
      refine Or.inr (Or.inr ⟨w, List.mem_range'_1.mpr ⟨Nat.zero_le _, by omega⟩, ?_⟩)
      unfold rk
      rw [if_neg (by omega), if_pos (by omega)]
      exact h
    · have hw := (List.mem_range'_1.mp hw).2
      rw [at_ln_rk hm hc (by omega) hs, Bool.or_eq_true, Bool.and_eq_true] at h
      rcases h with ⟨h1, h2⟩ | h
      · have h2 := of_decide_eq_true h2
        by_cases h0 : c = 0
        · rcases h2 with ⟨-, h | h⟩ | ⟨h, -⟩
          · right; left; unfold pw2; rw [if_pos h0, ← h]; exact h1
          · left; unfold pw1; rw [if_pos h0, ← h]; exact h1
          · omega
        · rcases h2 with ⟨h, -⟩ | ⟨-, h | h⟩
          · omega
          · right; left; unfold pw2; rw [if_neg h0, ← h]; exact h1
          · left; unfold pw1; rw [if_neg h0, ← h]; exact h1
      · exact Or.inr (Or.inr ⟨w, List.mem_range'_1.mpr ⟨Nat.zero_le _, by omega⟩, h⟩)
