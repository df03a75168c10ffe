/-! WHAT IS ATTACKED: the class's side -/
def nx (w s : Nat) : Int32 := tb_next (64 * w + s)
/-- so many squares that way, from a square on -/
def ryf : Nat → Nat → Nat → List Nat
  | 0, _, _ => []
  | f + 1, w, s => if nx w s < 0 then [] else (nx w s).toNatClampNeg :: ryf f w (nx w s).toNatClampNeg
theorem nx_fin : ∀ w : Fin 16, ∀ s : Fin 64, nx w s = -1 ∨ (nx w s = nI (nx w s).toNatClampNeg ∧ (nx w s).toNatClampNeg < 64) := by decide +kernel
theorem nx_cases {w s : Nat} (hw : w < 16) (hs : s < 64) : nx w s = -1 ∨ ∃ t, t < 64 ∧ nx w s = nI t := by
  rcases nx_fin ⟨w, hw⟩ ⟨s, hs⟩ with h | ⟨h1, h2⟩
  · exact Or.inl h
  · exact Or.inr ⟨_, h2, h1⟩
/-- the first man on those squares, and how far -/
def hit (m : Nat → Int32) : List Nat → Nat → Option (Nat × Int32)
  | [], _ => none
  | t :: l, i => if m t = 0 then hit m l (i + 1) else some (i, m t)
def at_hit (c w : Nat) : Option (Nat × Int32) → Bool
  | none => false
  | some (far, man) => decide (man >>> ((3 : Int32) &&& 31) = nI c ∧ ¬ ((if far = 0 then tb_NEAR man.toNatClampNeg else tb_FAR man.toNatClampNeg) >>> (nI w &&& 31) &&& 1) = 0)
def at_ln (m : Nat → Int32) (c w s : Nat) : Bool := at_hit c w (hit m (ryf 7 w s) 0)
def at_kn (m : Nat → Int32) (c w s : Nat) : Bool := decide (¬ nx w s < 0 ∧ m (nx w s).toNatClampNeg = 2 + 8 * nI c)
/-- is the square attacked by that side? -/
def att (m : Nat → Int32) (c s : Nat) : Bool := (List.range' 8 8).any (fun w => at_kn m c w s) || (List.range' 0 8).any (fun w => at_ln m c w s)
theorem pu_idx {w s : Nat} (hw : w < 16) (hs : s < 64) : (64 : Int32) * nI w + nI s = nI (64 * w + s) := by
  have h : ∀ w : Fin 16, ∀ s : Fin 64, (64 : Int32) * nI w + nI s = nI (64 * w + s) := by decide +kernel
  exact h ⟨w, hw⟩ ⟨s, hs⟩
/-- the men of a board are men -/
def okm (m : Nat → Int32) : Prop := ∀ s, s < 64 → am_in (m s) 16 = true
theorem pu_a75 (fu : Nat) (b : BdT) (x1 x2 : Int32) (w : Nat) (hw : w < 8) : ∀ (f s n : Nat), s < 64 → f ≤ 7 → f < n → l_Board_attacked_75 fu b x1 x2 (nI w) n (nx w s) (nI (7 - f)) = some (match hit (bd_men b) (ryf f w s) (7 - f) with
    | some (far, man) => .inl (nI far, man)
    | none => .inr ()) := by
  intro f
  induction f with
  | zero =>
    intro s n hs _ hn
    obtain ⟨n, rfl⟩ : ∃ m, n = m + 1 := ⟨n - 1, by omega⟩
    show b_Board_attacked_75 fu b x1 x2 (nI w) _ (nx w s) (nI 7) = _
    unfold b_Board_attacked_75
    rw [if_pos (show (7 : Int32) ≤ nI 7 from by decide)]
    rfl
  | succ f ih =>
    intro s n hs hf hn
    obtain ⟨n, rfl⟩ : ∃ m, n = m + 1 := ⟨n - 1, by omega⟩
    show b_Board_attacked_75 fu b x1 x2 (nI w) (l_Board_attacked_75 fu b x1 x2 (nI w) n) (nx w s) (nI (7 - (f + 1))) = _
    unfold b_Board_attacked_75
    rw [if_neg (show ¬ (7 : Int32) ≤ nI (7 - (f + 1)) from nI_ge (a := 7 - (f + 1)) (b := 7) (by omega) (by decide))]
    unfold ryf
    rcases nx_cases (w := w) (s := s) (by omega) hs with h | ⟨t, ht, h⟩
    · rw [h, if_pos (by decide), if_pos (by decide)]
      rfl
    · rw [h, if_neg (nI_pos (by omega)), if_neg (nI_pos (by omega)), if_pos (pu_in ht (by decide)), nI_clamp (by omega)]
      unfold hit
      by_cases hm : bd_men b t = 0
      · rw [if_pos hm, if_pos hm, pu_idx (by omega) ht, if_pos (pu_in (by omega) (by decide)), nI_clamp (by omega), nI_1, show 7 - (f + 1) + 1 = 7 - f by omega]
        exact ih t n ht (by omega) (by omega)
      · rw [if_neg hm, if_neg hm]
theorem hit_men {m : Nat → Int32} (hm : okm m) : ∀ (l : List Nat) (i : Nat) {far : Nat} {man : Int32}, (∀ t ∈ l, t < 64) → hit m l i = some (far, man) → am_in man 16 = true ∧ i ≤ far ∧ far < i + l.length
  | [], _, _, _, _, h => by cases h
  | t :: l, i, far, man, hl, h => by
    unfold hit at h
    by_cases hz : m t = 0
    · rw [if_pos hz] at h
      obtain ⟨h1, h2, h3⟩ := hit_men hm l (i + 1) (fun t ht => hl t (List.mem_cons_of_mem _ ht)) h
      exact ⟨h1, by omega, by simp only [List.length_cons]; omega⟩
    · rw [if_neg hz] at h
      cases h
      exact ⟨hm t (hl t List.mem_cons_self), Nat.le_refl _, by simp only [List.length_cons]; omega⟩
theorem ryf_lt : ∀ (f : Nat) {w s : Nat}, w < 16 → s < 64 → (∀ t ∈ ryf f w s, t < 64) ∧ (ryf f w s).length ≤ f
  | 0, _, _, _, _ => ⟨fun t h => (by cases h), Nat.le_refl _⟩
  | f + 1, w, s, hw, hs => by
    unfold ryf
    rcases nx_cases hw hs with h | ⟨t, ht, h⟩
    · rw [h, if_pos (by decide)]
      exact ⟨fun t h => (by cases h), Nat.zero_le _⟩
    · rw [h, if_neg (nI_pos (by omega)), nI_clamp (by omega)]
      obtain ⟨h1, h2⟩ := ryf_lt f (w := w) (s := t) hw ht
      exact ⟨fun u hu => by rcases List.mem_cons.mp hu with rfl | hu; exact ht; exact h1 u hu, by simp only [List.length_cons]; omega⟩
theorem pu_a53 (fu : Nat) (b : BdT) (hm : okm (bd_men b)) (c s : Nat) (hs : s < 64) (hfu : 7 < fu) : ∀ (j n : Nat), j ≤ 8 → j < n → l_Board_attacked_53 fu b (nI s) (nI c) n (nI (8 - j)) = some (cond ((List.range' (8 - j) j).any (fun w => at_ln (bd_men b) c w s)) 1 0) := by
  intro j
  induction j with
  | zero =>
    intro n _ hn
    obtain ⟨n, rfl⟩ : ∃ m, n = m + 1 := ⟨n - 1, by omega⟩
    show b_Board_attacked_53 fu b (nI s) (nI c) _ (nI 8) = _
    unfold b_Board_attacked_53
    rw [if_pos (show (8 : Int32) ≤ nI 8 from by decide)]
    rfl
  | succ j ih =>
    intro n hj hn
    obtain ⟨n, rfl⟩ : ∃ m, n = m + 1 := ⟨n - 1, by omega⟩
    have ih := ih n (by omega) (by omega)
    generalize hw : 8 - (j + 1) = w
    have e1 : 8 - j = w + 1 := by omega
    rw [e1] at ih
    show b_Board_attacked_53 fu b (nI s) (nI c) (l_Board_attacked_53 fu b (nI s) (nI c) n) (nI w) = _
    unfold b_Board_attacked_53
    have hw8 : w < 8 := by omega
    rw [if_neg (show ¬ (8 : Int32) ≤ nI w from nI_ge (a := w) (b := 8) hw8 (by decide)), pu_idx (by omega) hs, if_pos (pu_in (by omega) (by decide)), nI_clamp (by omega)]
    have h75 := pu_a75 fu b (nI s) (nI c) w hw8 7 s fu hs (by omega) hfu
    rw [show tb_next (64 * w + s) = nx w s from rfl, show (0 : Int32) = nI (7 - 7) from rfl, h75, show 7 - 7 = 0 from rfl]
    rw [List.range'_succ, List.any_cons]
    have hl : at_ln (bd_men b) c w s = at_hit c w (hit (bd_men b) (ryf 7 w s) 0) := rfl
    cases hh : hit (bd_men b) (ryf 7 w s) 0 with
    | none =>
      rw [hl, hh]
      show l_Board_attacked_53 fu b (nI s) (nI c) n (nI w + 1) = _
      rw [nI_1, ih]
      rfl
    | some q =>
      obtain ⟨far, man⟩ := q
      obtain ⟨m1, -, m3⟩ := hit_men hm _ 0 (ryf_lt 7 (by omega) hs).1 hh
      have m4 := (ryf_lt 7 (w := w) (s := s) (by omega) hs).2
      rw [hl, hh]
      show j_Board_attacked_101 fu (l_Board_attacked_53 fu b (nI s) (nI c) n) b (nI s) (nI c) (nI w) (nI far) man = _
      unfold j_Board_attacked_101
      rw [if_pos m1, if_pos m1]
      have key : ∀ y : Int32, (y = if far = 0 then tb_NEAR man.toNatClampNeg else tb_FAR man.toNatClampNeg) → j_Board_attacked_121 fu (l_Board_attacked_53 fu b (nI s) (nI c) n) b (nI s) (nI c) (nI w) man y = some (cond (at_hit c w (some (far, man)) || (List.range' (w + 1) j).any (fun w => at_ln (bd_men b) c w s)) 1 0) := by
        intro y hy
        unfold j_Board_attacked_121 j_Board_attacked_162
        rw [nI_1, ih]
        unfold at_hit
        dsimp only
        rw [← hy]
        by_cases h1 : man >>> ((3 : Int32) &&& 31) = nI c
        · by_cases h2 : y >>> (nI w &&& 31) &&& 1 = 0
          · simp [h1, h2]
          · simp [h1, h2]
        · simp [h1]
      by_cases hf : far = 0
      · subst hf
        rw [if_neg (show ¬ ¬ nI 0 = (0 : Int32) from fun h => h rfl)]
        exact key _ (by rw [if_pos rfl])
      · rw [if_pos (show ¬ nI far = (0 : Int32) from nI_ne0 (by omega) (by omega))]
        exact key _ (by rw [if_neg hf])
theorem pu_a3 (fu : Nat) (b : BdT) (c s : Nat) (hs : s < 64) : ∀ (j n : Nat), j ≤ 8 → j < n → l_Board_attacked_3 fu b (nI s) (nI c) n (nI (16 - j)) = some (cond ((List.range' (16 - j) j).any (fun w => at_kn (bd_men b) c w s)) (.inr 1) (.inl ())) := by
  intro j
  induction j with
  | zero =>
    intro n _ hn
    obtain ⟨n, rfl⟩ : ∃ m, n = m + 1 := ⟨n - 1, by omega⟩
    show b_Board_attacked_3 fu b (nI s) (nI c) _ (nI 16) = _
    unfold b_Board_attacked_3
    rw [if_pos (show (16 : Int32) ≤ nI 16 from by decide)]
    rfl
  | succ j ih =>
    intro n hj hn
    obtain ⟨n, rfl⟩ : ∃ m, n = m + 1 := ⟨n - 1, by omega⟩
    have ih := ih n (by omega) (by omega)
    generalize hw : 16 - (j + 1) = w
    have e1 : 16 - j = w + 1 := by omega
    rw [e1] at ih
    show b_Board_attacked_3 fu b (nI s) (nI c) (l_Board_attacked_3 fu b (nI s) (nI c) n) (nI w) = _
    unfold b_Board_attacked_3 j_Board_attacked_45
    have hw8 : w < 16 := by omega
    rw [if_neg (show ¬ (16 : Int32) ≤ nI w from nI_ge (a := w) (b := 16) hw8 (by decide)), pu_idx (by omega) hs, if_pos (pu_in (by omega) (by decide)), nI_clamp (by omega)]
    rw [show tb_next (64 * w + s) = nx w s from rfl, List.range'_succ, List.any_cons, nI_1, ih]
    unfold at_kn
    rcases nx_cases (w := w) (s := s) hw8 hs with h | ⟨t, ht, h⟩
    · rw [h, if_pos (by decide)]
      simp only [show ((-1 : Int32) < 0) = True from by simp, not_true_eq_false, false_and, decide_false, Bool.false_or]
    · rw [h, if_neg (nI_pos (by omega)), if_pos (pu_in ht (by decide)), nI_clamp (by omega)]
      by_cases hk : bd_men b t = 2 + 8 * nI c
      · rw [if_neg (fun h => h hk)]
        simp [hk, nI_pos (n := t) (by omega)]
      · rw [if_pos hk]
        simp [hk]
theorem pu_attacked (fu : Nat) (b : BdT) (hm : okm (bd_men b)) (c s : Nat) (hs : s < 64) (hfu : 8 < fu) : f_Board_attacked fu (nI s) (nI c) b = some (cond (att (bd_men b) c s) 1 0) := by
  unfold f_Board_attacked j_Board_attacked_51
  rw [show (8 : Int32) = nI (16 - 8) from rfl, pu_a3 fu b c s hs 8 fu (by omega) hfu, show (0 : Int32) = nI (8 - 8) from rfl, pu_a53 fu b hm c s hs (by omega) 8 fu (by omega) hfu]
  unfold att
  cases (List.range' (16 - 8) 8).any (fun w => at_kn (bd_men b) c w s) <;> rfl
