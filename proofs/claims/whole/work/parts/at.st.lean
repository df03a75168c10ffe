/-! THE START -/
def m0l : List Int32 := [4, 2, 3, 5, 6, 3, 2, 4, 1, 1, 1, 1, 1, 1, 1, 1, 0, 0, 0, 0, 0, 0, 0, 0, 0, 0, 0, 0, 0, 0, 0, 0, 0, 0, 0, 0, 0, 0, 0, 0, 0, 0, 0, 0, 0, 0, 0, 0, 9, 9, 9, 9, 9, 9, 9, 9, 12, 10, 11, 13, 14, 11, 10, 12]
def m0 (i : Nat) : Int32 := m0l.getD i 0
def z0 : Pz := (m0, 0, 15, -1)
theorem m0_o : oq m0 := fun i hi => by
  unfold m0
  rw [List.getD_eq_getElem?_getD, List.getElem?_eq_none (by show 64 ≤ i; exact hi)]
  rfl
theorem z0_gz : Gz z0 := by
  have f1 : ∀ s : Fin 64, am_in (m0 s) 16 = true := by decide +kernel
  have f2 : ∀ s : Fin 64, ¬ m0 s = 0 → (m0 s &&& 7 = 1 ∨ m0 s &&& 7 = 2 ∨ m0 s &&& 7 = 3 ∨ m0 s &&& 7 = 4 ∨ m0 s &&& 7 = 5 ∨ m0 s &&& 7 = 6) := by decide +kernel
  have f3 : ∀ d : Fin 2, ∀ t : Fin 64, m0 t = 6 + 8 * nI d → t.val = 56 * d.val + 4 := by decide +kernel
  have f4 : ∀ d : Fin 2, m0 (56 * d.val + 4) = 6 + 8 * nI d ∧ m0 (56 * d.val + 7) = 4 + 8 * nI d ∧ m0 (56 * d.val) = 4 + 8 * nI d := by decide +kernel
  have f5 : ∀ s : Fin 64, m0 s &&& 7 = 1 → 8 ≤ s.val ∧ s.val < 56 := by decide +kernel
  refine ⟨⟨⟨fun s hs => f1 ⟨s, hs⟩, show (0 : Nat) < 2 by omega, show (15 : Nat) < 16 by omega⟩, fun s hs => f2 ⟨s, hs⟩, fun d hd => ⟨56 * d + 4, by omega, (f4 ⟨d, hd⟩).1, fun t ht h => f3 ⟨d, hd⟩ ⟨t, ht⟩ h⟩, fun s hs => f5 ⟨s, hs⟩, fun d hd => ⟨fun _ => ⟨(f4 ⟨d, hd⟩).1, (f4 ⟨d, hd⟩).2.1⟩, fun _ => ⟨(f4 ⟨d, hd⟩).1, (f4 ⟨d, hd⟩).2.2⟩⟩, Or.inl rfl, m0_o⟩, ?_⟩
  show chk m0 1 = false
  decide +kernel
theorem clr_o (fu : Nat) : ∀ (m : Nat) (x : Int32) (b b' : BdT), l_Board_clear_2 fu m x b = some b' → oq (bd_men b) → oq (bd_men b') := by
  intro m
  induction m with
  | zero => intro x b b' h ho; cases h
  | succ m ih =>
    intro x b b' h ho
    have h : b_Board_clear_2 fu (l_Board_clear_2 fu m) x b = some b' := h
    unfold b_Board_clear_2 at h
    by_cases c1 : (64 : Int32) ≤ x
    · rw [if_pos c1] at h; cases h; exact ho
    · rw [if_neg c1] at h
      by_cases c2 : am_in x 64 = true
      · rw [if_pos c2] at h
        refine ih _ _ _ h (fun i hi => ?_)
        obtain ⟨k, hk, rfl⟩ := pu_inf c2 (by decide)
        show upd (bd_men b) (nI k).toNatClampNeg 0 i = 0
        rw [nI_clamp (by omega), upd_o _ _ (by omega)]
        exact ho i hi
      · rw [if_neg c2] at h; cases h
/-- the men on the files before the i-th -/
def mi (i x : Nat) : Int32 := if x % 8 < i then m0 x else 0
theorem mi_fin : ∀ i : Fin 8, mi i i = 0 ∧ mi i (8 + i.val) = 0 ∧ mi i (48 + i.val) = 0 ∧ mi i (56 + i.val) = 0 ∧ am_in (tb_FIRST_RANK i) 16 = true ∧ ¬ tb_FIRST_RANK i = 0 ∧ am_in (tb_FIRST_RANK i + 8) 16 = true ∧ ¬ tb_FIRST_RANK i + 8 = 0 := by decide +kernel
theorem mi_fin2 : ∀ i : Fin 8, ∀ x : Fin 64, upd (upd (upd (upd (mi i) i (tb_FIRST_RANK i)) (8 + i.val) 1) (48 + i.val) 9) (56 + i.val) (tb_FIRST_RANK i + 8) x = mi (i.val + 1) x := by decide +kernel
theorem mi_step {i : Nat} (hi : i < 8) : upd (upd (upd (upd (mi i) i (tb_FIRST_RANK i)) (8 + i) 1) (48 + i) 9) (56 + i) (tb_FIRST_RANK i + 8) = mi (i + 1) := by
  funext x
  by_cases hx : x < 64
  · exact mi_fin2 ⟨i, hi⟩ ⟨x, hx⟩
  · rw [upd_o _ _ (by omega), upd_o _ _ (by omega), upd_o _ _ (by omega), upd_o _ _ (by omega)]
    unfold mi
    rw [m0_o x (by omega), ite_self, ite_self]
theorem mi_0 : mi 0 = fun _ => 0 := by
  funext x
  unfold mi
  rw [if_neg (by omega)]
theorem mi_8 : mi 8 = m0 := by
  funext x
  unfold mi
  rw [if_pos (Nat.mod_lt _ (by omega))]
theorem su_loop (fu : Nat) : ∀ (r m i : Nat) (b : BdT), i + r = 8 → r < m → bd_men b = mi i → okh b → ∃ h', l_Board_setUp_6 fu m (nI i) b = some (m0, h', b.2.2) ∧ okh (m0, h', b.2.2) := by
  intro r
  induction r with
  | zero =>
    intro m i b hi hm hb hh
    obtain ⟨m, rfl⟩ : ∃ x, m = x + 1 := ⟨m - 1, by omega⟩
    obtain ⟨men, held, rest⟩ := b
    have hb : men = mi i := hb
    rw [show i = 8 by omega, mi_8] at hb
    subst hb
    refine ⟨held, ?_, hh⟩
    show b_Board_setUp_6 fu _ (nI i) (m0, held, rest) = _
    unfold b_Board_setUp_6
    rw [if_pos (show (8 : Int32) ≤ nI i from nI_le (a := 8) (by omega) (by omega))]
  | succ r ih =>
    intro m i b hi hm hb hh
    obtain ⟨m, rfl⟩ : ∃ x, m = x + 1 := ⟨m - 1, by omega⟩
    show ∃ h', b_Board_setUp_6 fu (l_Board_setUp_6 fu m) (nI i) b = _ ∧ _
    unfold b_Board_setUp_6
    obtain ⟨a1, a2, a3, a4, a5, a6, a7, a8⟩ := mi_fin ⟨i, by omega⟩
    simp only at a1 a2 a3 a4 a5 a6 a7 a8
    rw [if_neg (show ¬ (8 : Int32) ≤ nI i from nI_ge (b := 8) (by omega) (by decide)), if_pos (pu_in (show i < 8 by omega) (by decide)), nI_clamp (by omega), show nI i + (8 : Int32) = nI (8 + i) by rw [show nI i + (8 : Int32) = nI (i + 8) from nI_add i 8, Nat.add_comm], show nI i + (48 : Int32) = nI (48 + i) by rw [show nI i + (48 : Int32) = nI (i + 48) from nI_add i 48, Nat.add_comm], show nI i + (56 : Int32) = nI (56 + i) by rw [show nI i + (56 : Int32) = nI (i + 56) from nI_add i 56, Nat.add_comm], nI_1]
    obtain ⟨h1, e1, o1⟩ := cl_put b hh (t := i) (by omega) a5 a6 (by rw [hb]; exact a1)
    rw [e1]
    simp only [Option.bind_some]
    obtain ⟨h2, e2, o2⟩ := cl_put _ o1 (t := 8 + i) (by omega) (x := 1) (by decide) (by decide) (by
      show upd (bd_men b) i _ (8 + i) = 0
      rw [upd_o _ _ (by omega), hb]; exact a2)
    rw [e2]
    simp only [Option.bind_some]
    obtain ⟨h3, e3, o3⟩ := cl_put _ o2 (t := 48 + i) (by omega) (x := 9) (by decide) (by decide) (by
      show upd (upd (bd_men b) i _) (8 + i) _ (48 + i) = 0
      rw [upd_o _ _ (by omega), upd_o _ _ (by omega), hb]; exact a3)
    rw [e3]
    simp only [Option.bind_some]
    rw [if_pos (pu_in (show i < 8 by omega) (by decide))]
    obtain ⟨h4, e4, o4⟩ := cl_put _ o3 (t := 56 + i) (by omega) a7 a8 (by
      show upd (upd (upd (bd_men b) i _) (8 + i) _) (48 + i) _ (56 + i) = 0
      rw [upd_o _ _ (by omega), upd_o _ _ (by omega), upd_o _ _ (by omega), hb]; exact a4)
    rw [e4]
    simp only [Option.bind_some]
    obtain ⟨h5, e5, o5⟩ := ih m (i + 1) _ (by omega) (by omega) (by
      show upd (upd (upd (upd (bd_men b) i _) (8 + i) _) (48 + i) _) (56 + i) _ = _
      rw [hb]; exact mi_step (by omega)) o4
    exact ⟨h5, e5, o5⟩
theorem su_cb (fu : Nat) (hfu : 64 < fu) : ∃ B, f_Board_setUp fu iB = some B ∧ CB B z0 [] := by
  obtain ⟨D, d1, d2, d3, d4, d5, d6, d7, d8, d9⟩ := c_clear fu hfu iB
  have hD : bd_men D = mi 0 := by
    rw [mi_0]
    funext x
    by_cases hx : x < 64
    · exact d2 x hx
    · have d1' := d1
      unfold f_Board_clear at d1'
      obtain ⟨b0, e0, d1'⟩ := am_bind d1'
      have o0 := clr_o fu _ _ _ _ e0 (fun _ _ => rfl)
      unfold j_Board_clear_21 at d1'
      rw [if_pos (by decide), if_pos (by decide)] at d1'
      cases d1'
      exact o0 x (by omega)
  obtain ⟨h', e1, e2⟩ := su_loop fu 8 fu 0 D (by omega) (by omega) hD d9.1
  unfold f_Board_setUp
  rw [d1]
  simp only [Option.bind_some]
  rw [show l_Board_setUp_6 fu fu (0 : Int32) D = _ from e1]
  simp only [Option.bind_some]
  unfold j_Board_setUp_63
  rw [if_pos (by decide), if_pos (by decide)]
  refine ⟨_, rfl, ⟨rfl, e2, d5, rfl, d7, fun d hd => ?_⟩, d8, trivial⟩
  obtain ⟨k, hk⟩ := z0_gz.1.2.2.1 d hd
  refine ⟨k, hk, ?_⟩
  have f4 : ∀ d : Fin 2, m0 (56 * d.val + 4) = 6 + 8 * nI d := by decide +kernel
  rw [← hk.2.2 (56 * d + 4) (by omega) (f4 ⟨d, hd⟩)]
  rcases (show d = 0 ∨ d = 1 by omega) with rfl | rfl
  · rfl
  · rfl
theorem new_if (fu : Nat) (gg : Int32 → PoT → PaT → KeT → Option (PoT × PaT × KeT)) (i : Nat) (hi : i < 8) (Q : PoT) (A : PaT) (K : KeT) : b_M_new_159 fu gg (nI i) Q A K = j_M_new_219 fu gg Q A K (nI i) (tb_FIRST_RANK i) := by
  unfold b_M_new_159 j_M_new_175 j_M_new_190 j_M_new_204
  rcases (show i = 0 ∨ i = 1 ∨ i = 2 ∨ i = 3 ∨ i = 4 ∨ i = 5 ∨ i = 6 ∨ i = 7 by omega) with rfl | rfl | rfl | rfl | rfl | rfl | rfl | rfl
  · rw [show tb_FIRST_RANK 0 = (4 : Int32) by decide +kernel, if_neg (by decide), if_pos (by decide)]
  · rw [show tb_FIRST_RANK 1 = (2 : Int32) by decide +kernel, if_neg (by decide), if_neg (by decide), if_pos (by decide), if_pos (by decide)]
  · rw [show tb_FIRST_RANK 2 = (3 : Int32) by decide +kernel, if_neg (by decide), if_neg (by decide), if_pos (by decide), if_neg (by decide), if_pos (by decide), if_pos (by decide)]
  · rw [show tb_FIRST_RANK 3 = (5 : Int32) by decide +kernel, if_neg (by decide), if_neg (by decide), if_pos (by decide), if_neg (by decide), if_pos (by decide), if_neg (by decide), if_pos (by decide), if_neg (by decide)]
  · rw [show tb_FIRST_RANK 4 = (6 : Int32) by decide +kernel, if_neg (by decide), if_neg (by decide), if_pos (by decide), if_neg (by decide), if_pos (by decide), if_neg (by decide), if_pos (by decide), if_pos (by decide)]
  · rw [show tb_FIRST_RANK 5 = (3 : Int32) by decide +kernel, if_neg (by decide), if_neg (by decide), if_pos (by decide), if_neg (by decide), if_pos (by decide), if_neg (by decide), if_neg (by decide)]
  · rw [show tb_FIRST_RANK 6 = (2 : Int32) by decide +kernel, if_neg (by decide), if_neg (by decide), if_pos (by decide), if_neg (by decide), if_neg (by decide)]
  · rw [show tb_FIRST_RANK 7 = (4 : Int32) by decide +kernel, if_neg (by decide), if_neg (by decide), if_neg (by decide)]
theorem new_loop (fu : Nat) : ∀ (r m i : Nat) (Q : PoT) (A : PaT) (K : KeT), i + r = 8 → r < m → po_men Q = mi i → l_M_new_159 fu m (nI i) Q A K = (f_M_enter fu (m0, Q.2) A K).bind fun a => some ((m0, Q.2), a.1, a.2) := by
  intro r
  induction r with
  | zero =>
    intro m i Q A K hi hm hq
    obtain ⟨m, rfl⟩ : ∃ x, m = x + 1 := ⟨m - 1, by omega⟩
    obtain ⟨men, rest⟩ := Q
    have hq : men = mi i := hq
    rw [show i = 8 by omega, mi_8] at hq
    subst hq
    show b_M_new_159 fu _ (nI i) (m0, rest) A K = _
    unfold b_M_new_159
    rw [if_pos (show (8 : Int32) ≤ nI i from nI_le (a := 8) (by omega) (by omega))]
  | succ r ih =>
    intro m i Q A K hi hm hq
    obtain ⟨m, rfl⟩ : ∃ x, m = x + 1 := ⟨m - 1, by omega⟩
    show b_M_new_159 fu (l_M_new_159 fu m) (nI i) Q A K = _
    rw [new_if fu _ i (by omega)]
    unfold j_M_new_219
    rw [show (8 : Int32) + nI i = nI (8 + i) from nI_add 8 i, show (48 : Int32) + nI i = nI (48 + i) from nI_add 48 i, show (56 : Int32) + nI i = nI (56 + i) from nI_add 56 i, if_pos (pu_in (show i < 64 by omega) (by decide)), if_pos (pu_in (show 8 + i < 64 by omega) (by decide)), if_pos (pu_in (show 48 + i < 64 by omega) (by decide)), if_pos (pu_in (show 56 + i < 64 by omega) (by decide)), nI_clamp (by omega), nI_clamp (by omega), nI_clamp (by omega), nI_clamp (by omega), nI_1, hq, mi_step (by omega)]
    exact ih m (i + 1) (mi (i + 1), Q.2) A K (by omega) (by omega) rfl
theorem pu_holds : pu_goal := by
  obtain ⟨B1, b1, b2⟩ := su_cb 1000 (by omega)
  obtain ⟨w, B2, e1, e2, e3⟩ := cb_fillLegal 1000 (by omega) B1 z0 [] b2 (by simp) z0_gz (okN_holds z0 z0_gz) iL
  have hn := new_loop 1000 8 1000 0 iQ iA iK (by omega) (by omega) mi_0.symm
  obtain ⟨A, K, a1, a2, a3, a4⟩ := r_enter 1000 (by omega) (m0, iQ.2) iA iK z0 [] (by simp) rfl ⟨rfl, rfl, rfl, rfl⟩ trivial
  rw [a1] at hn
  simp only [Option.bind_some] at hn
  refine ⟨1000, B1, B2, w, (m0, iQ.2), A, K, pu_steps 1000 (by omega), b1, e1, hn, fun sn sx hsn => ?_⟩
  have hLI : LI iG (m0, iQ.2) A K iT B2 w iF iP := ⟨[], z0, [], [], ⟨by simp, rfl, rfl, fun i c h => by cases h⟩, ⟨z0_gz, e3, by simp, trivial, ⟨rfl, rfl, rfl, rfl⟩, a2, a3, e2, Or.inl rfl⟩, ⟨rfl, fun i v h => by cases h⟩, by simp, a4⟩
  obtain ⟨⟨oE, oG, oQ, oN, oA, oU, oY, oK, oH, oO, oq, oT, oD, or, oB, oV, oL, oF, oR, oS, oP⟩, h1, h2, h3⟩ := law_loop 1000 (by omega) sn hsn sx 512 1000 0 0 iG (m0, iQ.2) 1 A iU iY K iH (fun _ => 0) (66, 34655) iT iD 0 B2 iV w iF iR iS iP (by omega) (by omega) (by omega) hLI (by decide) (by decide)
  exact ⟨oE, oG, oQ, oN, oA, oU, oY, oK, oH, oO, oq, oT, oD, or, oB, oV, oL, oF, oR, oS, oP, h1, h2, h3⟩
