/-! CALLS: refuted -/
def r2 (o : Option Mv) : Int32 := match o with
  | some v => cd v
  | none => -2
theorem r_ref (fu : Nat) (hfu : 704 < fu) (E : ThT) (k g n : Nat) (hk : k < 2) (hg : g < 2) (hn : n ≤ 2) (z : Pz) (hG : Gz z) (x5 : Int32) : ∀ (r m i : Nat) (Q : PoT) (U : UnT) (Y : LiT), i + r = (lgl z).length → r < m → RQ Q z → (∀ i v, (lgl z)[i]? = some v → li_lists Y (2048 + i) = cd v) → ∃ Q' U' Y', l_M_refuted_105 fu E (nI k) (nI g) (nI (n + 1)) x5 (nI (lgl z).length) m (-2 : Int32) (nI i) Q U Y = some (r2 (((lgl z).drop i).find? (fun v => !ansP k g (slv k g n) (mkv v z))), Q', U', Y') ∧ RQ Q' z ∧ kpt U U' Y Y' 1 2 := by
  have h704 := lgl704 hG
  have hsv : KSv (g_M_isSolved fu 12).2.2 k g (n + 1) 1 (ansP k g (slv k g n)) := (rs_all okN_holds fu hfu k g hk hg n hn).1 12 0 (by omega) (by omega)
  intro r
  induction r with
  | zero =>
    intro m i Q U Y hi hm hQ hY
    obtain ⟨m, rfl⟩ : ∃ x, m = x + 1 := ⟨m - 1, by omega⟩
    refine ⟨Q, U, Y, ?_, hQ, kpt_r _ _ _ _⟩
    show b_M_refuted_105 fu E (nI k) (nI g) (nI (n + 1)) x5 (nI (lgl z).length) _ (-2 : Int32) (nI i) Q U Y = _
    unfold b_M_refuted_105
    rw [if_pos (nI_le (by omega) (by omega)), List.drop_of_length_le (by omega)]
    rfl
  | succ r ih =>
    intro m i Q U Y hi hm hQ hY
    obtain ⟨m, rfl⟩ : ∃ x, m = x + 1 := ⟨m - 1, by omega⟩
    show ∃ Q' U' Y', b_M_refuted_105 fu E (nI k) (nI g) (nI (n + 1)) x5 (nI (lgl z).length) (l_M_refuted_105 fu E (nI k) (nI g) (nI (n + 1)) x5 (nI (lgl z).length) m) (-2 : Int32) (nI i) Q U Y = _ ∧ _
    unfold b_M_refuted_105 j_M_refuted_152
    obtain ⟨v, g1, g2, g3⟩ := drq (P := lgl z) (i := i) (by omega)
    rw [if_neg (nI_ge (by omega) (by omega)), if_neg (fun w => w rfl), show (2048 : Int32) + nI i = nI (2048 + i) from nI_add 2048 i, if_pos (pu_in (show 2048 + i < 20480 by omega) (by decide)), nI_clamp (by omega), hY i v g1, nI_1]
    obtain ⟨Q1, U1, Y1, q1, q2, q3⟩ := hsv z v Q U Y hG g2 hQ
    rw [show f_M_isAnswered fu (nI k) (nI g) (nI (n + 1)) (1 : Int32) (cd v) Q U Y = _ from q1]
    simp only [Option.bind_some]
    have hY1 : ∀ j u, (lgl z)[j]? = some u → li_lists Y1 (2048 + j) = cd u := fun j u hu => by
      have hj : j < (lgl z).length := (List.getElem?_eq_some_iff.mp hu).1
      rw [q3.2 (2048 + j) (by omega)]; exact hY j u hu
    rw [g3, List.find?_cons]
    cases hs : ansP k g (slv k g n) (mkv v z) with
    | false =>
      rw [if_pos (by decide)]
      obtain ⟨m, rfl⟩ : ∃ x, m = x + 1 := ⟨m - 1, by omega⟩
      refine ⟨Q1, U1, Y1, ?_, q2, q3⟩
      show b_M_refuted_105 fu E (nI k) (nI g) (nI (n + 1)) x5 (nI (lgl z).length) _ (cd v) (nI (i + 1)) Q1 U1 Y1 = some (cd v, _)
      unfold b_M_refuted_105
      have hne : ¬ cd v = (-2 : Int32) := fun w => cd_ne (lgl_ok hG g2).1 (by rw [w]; decide)
      by_cases w : nI (lgl z).length ≤ nI (i + 1)
      · rw [if_pos w]
      · rw [if_neg w, if_pos hne]
    | true =>
      rw [if_neg (by decide)]
      obtain ⟨Q2, U2, Y2, a1, a2, a3⟩ := ih m (i + 1) Q1 U1 Y1 (by omega) (by omega) q2 hY1
      exact ⟨Q2, U2, Y2, a1, a2, kpt_t q3 a3 (by omega) (by omega) (by omega) (by omega)⟩
theorem op_refuted (fu : Nat) (hfu : 704 < fu) (x1 x2 x3 x4 : Int32) (O : OuT) (q : CtT) (E : ThT) (G : RtT) (Q : PoT) (A : PaT) (U : UnT) (Y : LiT) (K : KeT) (T : TxT) (B : BdT) (V : MvT) (L F : RwT) (R : Nat → RwT) (S : SoT) (P : HeT) (h : LI G Q A K T B L F P) : ∃ kk O' q' B' V' R' S' rr e Q' U' Y', f_L_refuted fu x1 x2 x3 x4 O q B V L R S = some (kk, O', q', B', V', R', S') ∧ f_M_refuted fu x1 x2 x3 x4 E Q U Y = some (rr, e, Q', U', Y') ∧ TH kk O' q q' rr e ∧ LI G Q' A K T B' L F P := by
  obtain ⟨tx, z, l, ks, hT, hPI, hF, hks, hK⟩ := h
  unfold f_L_refuted f_Mp_refuted f_M_refuted j_M_refuted_15 j_M_refuted_43 j_M_refuted_48
  rcases pr_ok x1 x2 x3 with ⟨e1, e2⟩ | ⟨e1, e2, k, g, n, hk, hg, hn, rfl, rfl, rfl⟩
  · rw [e1, e2]
    simp only [Option.bind_some]
    rw [if_pos trivial, if_pos trivial, if_neg (by decide)]
    exact ⟨_, _, _, _, _, _, _, _, _, _, _, _, rfl, rfl, ⟨rfl, fun q => absurd q (by decide), Or.inr rfl⟩, tx, z, l, ks, hT, hPI, hF, hks, hK⟩
  · rw [e1, e2]
    simp only [Option.bind_some]
    have hPI' := hPI
    obtain ⟨hG, hC, hl, hW, hQ, hpl, hPA, hL, hH⟩ := hPI'
    have h704 := lgl704 hG
    obtain ⟨Q1, U1, Y1, q1, q2, q3, q4⟩ := rf_list fu (by omega) z hG (okN_holds z hG) 0 (by omega) Q U Y hQ
    rw [show f_M_list fu (0 : Int32) Q U Y = _ from q1]
    simp only [Option.bind_some]
    rw [if_neg (show ¬ (1 : Int32) = 0 by decide), if_pos (show (0 : Int32) ≤ 0 by decide)]
    rcases rw_has hL h704 x4 with ⟨e1, e2⟩ | ⟨i, v, e1, e2, e3, e4, e5⟩
    · rw [e1]
      simp only [Option.bind_some]
      rw [if_neg (fun q => q trivial)]
      simp only [Option.bind_some]
      rw [if_neg (by decide), if_pos trivial, if_neg (show ¬ (2 : Int32) ≤ 0 by decide)]
      rcases e2 with e2 | ⟨e2, e3⟩
      · rw [if_pos e2]
        exact ⟨_, _, _, _, _, _, _, _, _, _, _, _, rfl, rfl, ⟨rfl, fun q => absurd q (by decide), Or.inr rfl⟩, tx, z, l, ks, hT, hPI, hF, hks, hK⟩
      · rw [if_neg e2, if_neg (fun q => by
          rw [Int32.lt_iff_toInt_lt] at q
          rw [Int32.le_iff_toInt_le] at e3
          omega)]
        exact ⟨_, _, _, _, _, _, _, _, _, _, _, _, rfl, rfl, ⟨rfl, fun q => absurd q (by decide), Or.inr rfl⟩, tx, z, l, ks, hT, pi_q hPI q2, hF, hks, hK⟩
    · subst e3
      obtain ⟨p1, p2, p3, p4⟩ := lgl_ok hG e5
      rw [e1]
      simp only [Option.bind_some]
      have href : KRef (g_Solver fu 8).2 k g n 1 := (cs_all okN_holds fu hfu (okC_of okN_holds fu (by omega)) k g hk hg n hn).2.1 8 1 (by omega) (by omega)
      have hsv : KSv (g_M_isSolved fu 12).2.1 k g (n + 1) 0 (solP k g (slv k g n)) := (rs_all okN_holds fu hfu k g hk hg n hn).2.1 12 0 (by omega) (by omega)
      obtain ⟨S1, s1, s2, s3⟩ := c_ask fu (by omega) k g S
      rw [if_pos (show ¬ (1 : Int32) = 0 by decide), s1]
      simp only [Option.bind_some]
      rw [if_pos (pu_in (show i < 704 by omega) (by decide)), nI_clamp (by omega), hL.2 i v e4]
      obtain ⟨B1, f1, f2⟩ := cb_make B z l hC (by omega) hG.1.1 v.1 v.2.1 v.2.2 p3
      rw [show f_Board_make (cd v) B = _ from f1]
      simp only [Option.bind_some]
      obtain ⟨rr, B2, V2, R2, S2, a1, a2, a3, a4, a5, a6⟩ := href (mkv v z) _ B1 V R S1 p4 f2 (by simp only [List.length_cons]; omega) s2
      rw [show f_Solver_refutation fu (nI (n + 1)) (1 : Int32) B1 V R S1 = _ from a1]
      simp only [Option.bind_some]
      have a3 := a3 (by rw [s3]; decide)
      obtain ⟨B3, c1, c2⟩ := cb_unv B2 z l (by omega) hG v p1 a4
      rw [c1]
      simp only [Option.bind_some]
      rw [if_pos (th_0 O q rr).1, if_neg (nI_pos (by omega)), if_pos (nI_lt e2 (by omega)), if_pos (show (0 : Int32) ≤ 0 by decide), if_pos (pu_in (show i < 20480 by omega) (by decide))]
      have hy := q4.1 i v e4
      rw [show 2048 * 0 + i = i by omega] at hy
      rw [hy]
      obtain ⟨Q2, U2, Y2, d1, d2, d3⟩ := hsv z v Q1 U1 Y1 hG e5 q2
      rw [show f_M_solves fu (nI k) (nI g) (nI (n + 1)) (0 : Int32) (cd v) Q1 U1 Y1 = _ from d1]
      simp only [Option.bind_some]
      have hy2 : li_lists Y2 i = cd v := by rw [d3.2 i (by omega)]; exact hy
      cases hs : solP k g (slv k g n) (mkv v z) with
      | true =>
        rw [if_neg (by decide)]
        rw [a2.mpr hs]
        exact ⟨_, _, _, _, _, _, _, _, _, _, _, _, rfl, rfl, (th_0 O q (-1)).2, tx, z, l, ks, hT, pi_b hPI d2 c2, hF, hks, hK⟩
      | false =>
        rw [if_pos (by decide)]
        have hr : rr = r2 (((lgl (mkv v z)).drop 0).find? (fun u => !ansP k g (slv k g n) (mkv u (mkv v z)))) := by
          rw [a3, List.drop_zero]
          unfold rft r2
          rw [hs]
          cases (lgl (mkv v z)).find? (fun u => !ansP k g (slv k g n) (mkv u (mkv v z))) with
          | some u => rfl
          | none => rfl
        obtain ⟨Q3, U3, g1, g2, g3, g4⟩ := rf_mkv Q2 U2 z d2 hG v e5 0 (by omega)
        rw [show f_M_make (cd v) (0 : Int32) Q2 U2 = _ from g1]
        simp only [Option.bind_some]
        obtain ⟨Q4, U4, Y4, i1, i2, i3, i4⟩ := rf_list fu (by omega) (mkv v z) p4 (okN_holds _ p4) 1 (by omega) Q3 U3 Y2 g2
        rw [show f_M_list fu (1 : Int32) Q3 U3 Y2 = _ from i1]
        simp only [Option.bind_some]
        obtain ⟨Q5, U5, Y5, j1, j2, j3⟩ := r_ref fu hfu 0 k g n hk hg hn (mkv v z) p4 (cd v) (lgl (mkv v z)).length fu 0 Q4 U4 Y4 (by omega) (by have := lgl704 p4; omega) i2 (fun j u hu => i4.1 j u hu)
        rw [show l_M_refuted_105 fu 0 (nI k) (nI g) (nI (n + 1)) (cd v) (nI (lgl (mkv v z)).length) fu (-2 : Int32) (0 : Int32) Q4 U4 Y4 = _ from j1]
        simp only [Option.bind_some]
        unfold j_M_refuted_160
        obtain ⟨Q6, k1, k2⟩ := rf_unv Q5 U5 z hG v e5 0 (by omega) j2 (ufr_m g3 (usm_t (i3 0 (by omega)) (j3.1 0 (by omega))))
        rw [show f_M_takeBack (cd v) (0 : Int32) Q5 U5 = _ from k1]
        simp only [Option.bind_some]
        rw [← hr]
        exact ⟨_, _, _, _, _, _, _, _, _, _, _, _, rfl, rfl, (th_0 O q rr).2, tx, z, l, ks, hT, pi_b hPI k2 c2, hF, hks, hK⟩
