/-! LINES IN WHICH BOTH SIDES HELP: what they are, and the reference -/
def hln (g : Nat) : Nat → Pz → List (List Mv)
  | 0, z => if btn z g = true then [[]] else []
  | n + 1, z => (lgl z).flatMap (fun v => (hln g n (mkv v z)).map (fun x => v :: x))
/-- the tail's lines behind some moves -/
abbrev pfx (p : List Mv) (L : List (List Mv)) : List (List Mv) := L.map (fun x => p ++ x)
theorem pfx_app (p : List Mv) (A C : List (List Mv)) : pfx p (A ++ C) = pfx p A ++ pfx p C := List.map_append
theorem pfx_cons (p : List Mv) (v : Mv) (L : List (List Mv)) : pfx p (L.map (fun x => v :: x)) = pfx (p ++ [v]) L := by
  unfold pfx
  rw [List.map_map]
  congr 1
  funext x
  simp
/-- the reference's notes behind some lines -/
def HJ (H : HlT) (b0 : Int32) (D : List (List Mv)) : Prop := hl_before H = b0 - nI D.length ∧ ((hl_met H = 0 ∧ ∀ i, i < D.length → ¬ b0 = nI i) ∨ (¬ hl_met H = 0 ∧ ∃ i x, D[i]? = some x ∧ b0 = nI i ∧ ∀ j v, x[j]? = some v → hl_helpLine H j = cd v))
theorem i32_sub0 {a b : Int32} (h : a - b = 0) : a = b := by
  have := Int32.sub_add_cancel a b
  rw [h, Int32.zero_add] at this
  exact this.symm
theorem i32_sub1 (b0 : Int32) (n : Nat) : b0 - nI n - 1 = b0 - nI (n + 1) := by
  rw [← nI_1, Int32.sub_sub]
abbrev FCl : Type := Int32 → Int32 → Int32 → PoT → UnT → LiT → HlT → Option (Int32 × PoT × UnT × LiT × HlT)
/-- the moves tried stand in the notes -/
def TR (H : HlT) (p : List Mv) : Prop := ∀ j v, p[j]? = some v → hl_tried H j = cd v
def KCl (f : FCl) (g lft far : Nat) : Prop := ∀ z Q U Y H p D b0, Gz z → RQ Q z → p.length = far → TR H p → HJ H b0 D → ∃ Q' U' Y' H', f (nI g) (nI lft) (nI far) Q U Y H = some (nI (hln g lft z).length, Q', U', Y', H') ∧ RQ Q' z ∧ kpt U U' Y Y' far far ∧ HJ H' b0 (D ++ pfx p (hln g lft z)) ∧ TR H' p
theorem rc_38 (fu : Nat) (c : FCl) (Q : PoT) (U : UnT) (Y : LiT) (x4 : Int32) (far : Nat) (hfar : far ≤ 4) : ∀ (r m i : Nat) (H : HlT), i + r = far → r < m → ∃ h', l_M_countLines_38 fu c Q U Y (nI far) x4 m (nI i) H = some (hl_before H, hl_met H, h', hl_tried H) ∧ (∀ j, i ≤ j → j < far → h' j = hl_tried H j) ∧ ∀ j, j < i → h' j = hl_helpLine H j := by
  intro r
  induction r with
  | zero =>
    intro m i H hi hm
    obtain ⟨m, rfl⟩ : ∃ x, m = x + 1 := ⟨m - 1, by omega⟩
    refine ⟨hl_helpLine H, ?_, fun j h1 h2 => by omega, fun _ _ => rfl⟩
    show b_M_countLines_38 fu c Q U Y (nI far) x4 _ (nI i) H = _
    unfold b_M_countLines_38
    rw [if_pos (nI_le (by omega) (by omega))]
  | succ r ih =>
    intro m i H hi hm
    obtain ⟨m, rfl⟩ : ∃ x, m = x + 1 := ⟨m - 1, by omega⟩
    show ∃ h', b_M_countLines_38 fu c Q U Y (nI far) x4 (l_M_countLines_38 fu c Q U Y (nI far) x4 m) (nI i) H = _ ∧ _
    unfold b_M_countLines_38
    have h4 : am_in (nI i) 4 = true := pu_in (by omega) (by decide)
    rw [if_neg (nI_ge (by omega) (by omega)), if_pos h4, if_pos h4, nI_clamp (by omega), nI_1]
    obtain ⟨h', e1, e2, e3⟩ := ih m (i + 1) (hl_before H, hl_met H, upd (hl_helpLine H) i (hl_tried H i), hl_tried H) (by omega) (by omega)
    refine ⟨h', e1, fun j h1 h2 => ?_, fun j hj => ?_⟩
    · by_cases hji : j = i
      · rw [e3 j (by omega), hji]
        exact upd_s _ _ _
      · exact e2 j (by omega) h2
    · rw [e3 j (by omega)]
      exact upd_o _ _ (by omega)
theorem rc_0 (fu : Nat) (hfu : 64 < fu) (c : FCl) (g far : Nat) (hg : g < 2) (hfar : far ≤ 4) : KCl (e_M_countLines fu c) g 0 far := by
  intro z Q U Y H p D b0 hG hQ hp hT hJ
  obtain ⟨Q1, U1, b1, b2, b3⟩ := rf_beaten fu hfu z hG g hg Q U hQ
  have hk : kpt U U1 Y Y far far := ⟨fun i hi => b3 i (by omega), fun _ _ => rfl⟩
  unfold e_M_countLines
  rw [if_neg (fun q => q rfl), b1]
  simp only [Option.bind_some]
  show ∃ Q' U' Y' H', _ = some (nI (if btn z g = true then [[]] else ([] : List (List Mv))).length, Q', U', Y', H') ∧ RQ Q' z ∧ kpt U U' Y Y' far far ∧ HJ H' b0 (D ++ pfx p (if btn z g = true then [[]] else [])) ∧ TR H' p
  unfold j_M_countLines_64 j_M_countLines_83
  cases hb : btn z g with
  | false =>
    rw [if_pos (by decide), if_pos (by decide), if_pos (by decide), if_neg (by decide)]
    exact ⟨Q1, U1, Y, _, rfl, b2, hk, by simpa using hJ, hT⟩
  | true =>
    rw [if_neg (by decide), if_pos rfl]
    simp only [pfx, List.map_cons, List.map_nil, List.append_nil]
    obtain ⟨j1, j2⟩ := hJ
    have hbef : hl_before H - 1 = b0 - nI (D ++ [p]).length := by
      rw [j1, i32_sub1]; simp
    by_cases h0 : hl_before H = 0
    · rw [if_neg (fun q => q h0)]
      have hb0 : b0 = nI D.length := i32_sub0 (j1.symm.trans h0)
      by_cases hm : hl_met H = 0
      · rw [if_neg (fun q => q hm)]
        obtain ⟨h', e1, e2, -⟩ := rc_38 fu c Q1 U1 Y (cond true 1 0) far hfar far fu 0 (hl_before H, 1, hl_helpLine H, hl_tried H) (by omega) (by omega)
        rw [show l_M_countLines_38 fu c Q1 U1 Y (nI far) (cond true 1 0) fu (0 : Int32) (hl_before H, 1, hl_helpLine H, hl_tried H) = _ from e1]
        simp only [Option.bind_some]
        rw [if_neg (by decide), if_neg (by decide)]
        refine ⟨Q1, U1, Y, _, rfl, b2, hk, ⟨hbef, Or.inr ⟨by show ¬ (1 : Int32) = 0; decide, D.length, p, by simp, hb0, fun j v hv => ?_⟩⟩, hT⟩
        have hj : j < p.length := (List.getElem?_eq_some_iff.mp hv).1
        show h' j = cd v
        rw [e2 j (by omega) (by omega)]
        exact hT j v hv
      · rw [if_pos hm, if_neg (by decide), if_neg (by decide)]
        refine ⟨Q1, U1, Y, _, rfl, b2, hk, ⟨hbef, ?_⟩, hT⟩
        rcases j2 with ⟨q, -⟩ | ⟨q, i, x, q1, q2, q3⟩
        · exact absurd q hm
        · exact Or.inr ⟨q, i, x, by rw [List.getElem?_append_left (List.getElem?_eq_some_iff.mp q1).1]; exact q1, q2, q3⟩
    · rw [if_pos h0, if_neg (by decide), if_neg (by decide)]
      refine ⟨Q1, U1, Y, _, rfl, b2, hk, ⟨hbef, ?_⟩, hT⟩
      rcases j2 with ⟨q, q1⟩ | ⟨q, i, x, q1, q2, q3⟩
      · refine Or.inl ⟨q, fun i hi => ?_⟩
        simp only [List.length_append, List.length_cons, List.length_nil] at hi
        by_cases e : i = D.length
        · intro w
          apply h0
          rw [j1, w, e, Int32.sub_self]
        · exact q1 i (by omega)
      · exact Or.inr ⟨q, i, x, by rw [List.getElem?_append_left (List.getElem?_eq_some_iff.mp q1).1]; exact q1, q2, q3⟩
/-- lines that begin with one of some moves -/
def lnf (g n : Nat) (z : Pz) (L : List Mv) : List (List Mv) := L.flatMap (fun v => (hln g n (mkv v z)).map (fun x => v :: x))
theorem lnf_cons (g n : Nat) (z : Pz) (v : Mv) (L : List Mv) : lnf g n z (v :: L) = (hln g n (mkv v z)).map (fun x => v :: x) ++ lnf g n z L := List.flatMap_cons
theorem rc_110 (fu : Nat) (c : FCl) (g lft far : Nat) (hfar : far < 4) (hlf : lft < 4) (hc : KCl c g lft (far + 1)) (z : Pz) (hG : Gz z) (hN : (pml z).length ≤ 704) (p : List Mv) (hp : p.length = far) (b0 : Int32) : ∀ (r m i a : Nat) (Q : PoT) (U : UnT) (Y : LiT) (H : HlT) (D : List (List Mv)), i + r = (lgl z).length → r < m → RQ Q z → TR H p → HJ H b0 D → (∀ i v, (lgl z)[i]? = some v → li_lists Y (2048 * far + i) = cd v) → ∃ Q' U' Y' H', l_M_countLines_110 fu c (nI g) (nI (lft + 1)) (nI far) (nI (lgl z).length) m (nI a) (nI i) Q U Y H = some (nI (a + (lnf g lft z ((lgl z).drop i)).length), Q', U', Y', H') ∧ RQ Q' z ∧ kpt U U' Y Y' far (far + 1) ∧ HJ H' b0 (D ++ pfx p (lnf g lft z ((lgl z).drop i))) ∧ TR H' p := by
  have hle := lgl_le z
  intro r
  induction r with
  | zero =>
    intro m i a Q U Y H D hi hm hQ hT hJ hY
    obtain ⟨m, rfl⟩ : ∃ x, m = x + 1 := ⟨m - 1, by omega⟩
    show ∃ Q' U' Y' H', b_M_countLines_110 fu c (nI g) (nI (lft + 1)) (nI far) (nI (lgl z).length) _ (nI a) (nI i) Q U Y H = _ ∧ _
    unfold b_M_countLines_110
    rw [if_pos (nI_le (by omega) (by omega)), List.drop_of_length_le (by omega)]
    exact ⟨Q, U, Y, H, rfl, hQ, kpt_r U Y _ _, by simpa [lnf] using hJ, hT⟩
  | succ r ih =>
    intro m i a Q U Y H D hi hm hQ hT hJ hY
    obtain ⟨m, rfl⟩ : ∃ x, m = x + 1 := ⟨m - 1, by omega⟩
    show ∃ Q' U' Y' H', b_M_countLines_110 fu c (nI g) (nI (lft + 1)) (nI far) (nI (lgl z).length) (l_M_countLines_110 fu c (nI g) (nI (lft + 1)) (nI far) (nI (lgl z).length) m) (nI a) (nI i) Q U Y H = _ ∧ _
    unfold b_M_countLines_110
    obtain ⟨v, g1, g2, g3⟩ := drq (P := lgl z) (i := i) (by omega)
    have m3 := mul2048 ⟨far, by omega⟩
    simp only at m3
    rw [if_neg (nI_ge (by omega) (by omega)), m3, nI_add, if_pos (pu_in (show 2048 * far + i < 20480 by omega) (by decide)), if_pos (pu_in hfar (by decide)), nI_clamp (show 2048 * far + i < _ by omega), nI_clamp (show far < _ by omega), hY i v g1, nI_pred, nI_1, nI_1]
    obtain ⟨Q1, U1, e1, e2, e3, e4⟩ := rf_mkv Q U z hQ hG v g2 far (by omega)
    rw [e1]
    simp only [Option.bind_some]
    have hTv : TR (hl_before H, hl_met H, hl_helpLine H, upd (hl_tried H) far (cd v)) (p ++ [v]) := by
      intro j u hu
      show upd (hl_tried H) far (cd v) j = cd u
      rw [List.getElem?_append] at hu
      by_cases hj : j < p.length
      · rw [if_pos hj] at hu
        rw [upd_o _ _ (by omega)]
        exact hT j u hu
      · rw [if_neg hj] at hu
        have : j - p.length = 0 := by
          apply Classical.byContradiction
          intro q
          obtain ⟨k, hk⟩ : ∃ k, j - p.length = k + 1 := Nat.exists_eq_succ_of_ne_zero q
          rw [hk] at hu
          cases hu
        rw [this] at hu
        cases hu
        rw [show j = far by omega, upd_s]
    obtain ⟨Q2, U2, Y2, H2, a1, a2, a3, a4, a5⟩ := hc (mkv v z) Q1 U1 Y (hl_before H, hl_met H, hl_helpLine H, upd (hl_tried H) far (cd v)) (p ++ [v]) D b0 (lgl_ok hG g2).2.2.2 e2 (by simp; omega) hTv hJ
    rw [a1]
    simp only [Option.bind_some]
    obtain ⟨Q3, q1, q2⟩ := rf_unv Q2 U2 z hG v g2 far (by omega) a2 (ufr_m e3 (a3.1 far (by omega)))
    rw [q1]
    simp only [Option.bind_some]
    rw [nI_add, g3, lnf_cons]
    have hT2 : TR H2 p := fun j u hu => a5 j u (by rw [List.getElem?_append_left (List.getElem?_eq_some_iff.mp hu).1]; exact hu)
    obtain ⟨Q4, U4, Y4, H4, s1, s2, s3, s4, s5⟩ := ih m (i + 1) (a + (hln g lft (mkv v z)).length) Q3 U2 Y2 H2 _ (by omega) (by omega) q2 hT2 a4 (fun j u hu => by
      have hj : j < (lgl z).length := (List.getElem?_eq_some_iff.mp hu).1
      rw [a3.2 _ (by omega)]; exact hY j u hu)
    refine ⟨Q4, U4, Y4, H4, ?_, s2, ?_, ?_, s5⟩
    · rw [s1]
      simp only [List.length_append, List.length_map]
      congr 3
      omega
    · exact kpt_t (kpt_t (show kpt U U1 Y Y far (far + 1) from ⟨fun i hi => e4 i (by omega), fun _ _ => rfl⟩) a3 (a0 := far) (b0 := far + 1) (by omega) (by omega) (by omega) (by omega)) s3 (by omega) (by omega) (by omega) (by omega)
    · rw [pfx_app, pfx_cons, ← List.append_assoc]
      exact s4
theorem rc_s (hN : okN) (fu : Nat) (hfu : 704 < fu) (c : FCl) (g lft far : Nat) (hfar : far < 4) (hlf : lft < 4) (hc : KCl c g lft (far + 1)) : KCl (e_M_countLines fu c) g (lft + 1) far := by
  intro z Q U Y H p D b0 hG hQ hp hT hJ
  have hN' := hN z hG
  have hle := lgl_le z
  unfold e_M_countLines
  rw [if_pos (show ¬ nI (lft + 1) = (0 : Int32) from nI_ne0 (by omega) (by omega))]
  obtain ⟨Q1, U1, Y1, q1, q2, q3, q4⟩ := rf_list fu (by omega) z hG hN' far (by omega) Q U Y hQ
  rw [q1]
  simp only [Option.bind_some]
  obtain ⟨Q2, U2, Y2, H2, s1, s2, s3, s4, s5⟩ := rc_110 fu c g lft far hfar hlf hc z hG hN' p hp b0 (lgl z).length fu 0 0 Q1 U1 Y1 H D (by omega) (by omega) q2 hT hJ q4.1
  rw [List.drop_zero, Nat.zero_add] at s1
  rw [List.drop_zero] at s4
  exact ⟨Q2, U2, Y2, H2, s1, s2, kpt_t (show kpt U U1 Y Y1 far far from ⟨fun i hi => q3 i (by omega), fun j hj => q4.2 j (Or.inl hj)⟩) s3 (by omega) (by omega) (by omega) (by omega), s4, s5⟩
theorem rc_all (hN : okN) (fu : Nat) (hfu : 704 < fu) (g : Nat) (hg : g < 2) : ∀ lft d far, lft + 1 ≤ d → lft + far ≤ 4 → KCl (g_M_countLines fu d) g lft far := by
  intro lft
  induction lft with
  | zero =>
    intro d far hd hf
    obtain ⟨d, rfl⟩ : ∃ e, d = e + 1 := ⟨d - 1, by omega⟩
    exact rc_0 fu (by omega) _ g far hg (by omega)
  | succ lft ih =>
    intro d far hd hf
    obtain ⟨d, rfl⟩ : ∃ e, d = e + 1 := ⟨d - 1, by omega⟩
    exact rc_s hN fu hfu _ g lft far (by omega) (by omega) (ih d (far + 1) (by omega) (by omega))
