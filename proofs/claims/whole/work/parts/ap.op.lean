/-! CALLS: keys, least, refuted -/
theorem pr_ok (x1 x2 x3 : Int32) : (f_Mp_checkProblem x1 x2 x3 = some (.inr 1) ∧ f_M_isProblem x1 x2 x3 = some 0) ∨ (f_Mp_checkProblem x1 x2 x3 = some (.inl ()) ∧ f_M_isProblem x1 x2 x3 = some 1 ∧ ∃ k g m, k < 2 ∧ g < 2 ∧ m ≤ 2 ∧ x1 = nI k ∧ x2 = nI g ∧ x3 = nI (m + 1)) := by
  have h18 : (j_M_isProblem_18 x3 = some 0 ∧ (x3 < 1 ∨ (¬ x3 < 1 ∧ (3 : Int32) < x3))) ∨ (j_M_isProblem_18 x3 = some 1 ∧ ¬ x3 < 1 ∧ ¬ (3 : Int32) < x3) := by
    unfold j_M_isProblem_18
    by_cases a : x3 < 1
    · rw [if_pos a]; exact Or.inl ⟨rfl, Or.inl a⟩
    · rw [if_neg a]
      by_cases b : (3 : Int32) < x3
      · rw [if_pos b]; exact Or.inl ⟨rfl, Or.inr ⟨a, b⟩⟩
      · rw [if_neg b]; exact Or.inr ⟨rfl, a, b⟩
  have key : ∀ k g, k < 2 → g < 2 → x1 = nI k → x2 = nI g → (f_Mp_checkGoal x2 = some (.inl ())) → ((j_Mp_checkProblem_19 x2 x3 = some (.inr 1) ∧ j_M_isProblem_18 x3 = some 0) ∨ (j_Mp_checkProblem_19 x2 x3 = some (.inl ()) ∧ j_M_isProblem_18 x3 = some 1 ∧ ∃ k g m, k < 2 ∧ g < 2 ∧ m ≤ 2 ∧ x1 = nI k ∧ x2 = nI g ∧ x3 = nI (m + 1))) := by
    intro k g hk hg e1 e2 hc
    unfold j_Mp_checkProblem_19
    rw [hc]
    simp only [Option.bind_some]
    rcases h18 with ⟨a, b | ⟨b, c⟩⟩ | ⟨a, b, c⟩
    · left; rw [if_pos b]; exact ⟨rfl, a⟩
    · left
      rw [if_neg b, if_neg (fun q => by
        rw [Int32.lt_iff_toInt_lt] at c
        rw [Int32.le_iff_toInt_le] at q
        omega)]
      exact ⟨rfl, a⟩
    · right
      rw [if_neg b, if_pos (by
        rw [Int32.lt_iff_toInt_lt] at c
        rw [Int32.le_iff_toInt_le]
        omega)]
      refine ⟨rfl, a, k, g, ?_⟩
      obtain ⟨n, hn, e⟩ := nI_of (x := x3) (fun q => b (by
        rw [Int32.lt_iff_toInt_lt] at q ⊢
        have : (0 : Int32).toInt = 0 := by decide
        have : (1 : Int32).toInt = 1 := by decide
        omega))
      subst e
      have n1 : 1 ≤ n := by
        apply Classical.byContradiction
        intro q; exact b (nI_lt (b := 1) (by omega) (by decide))
      have n3 : n ≤ 3 := by
        apply Classical.byContradiction
        intro q; exact c (nI_lt (a := 3) (by omega) hn)
      exact ⟨n - 1, hk, hg, by omega, e1, e2, by congr 1; omega⟩
  have g19 : ∀ k, k < 2 → x1 = nI k → ((j_Mp_checkProblem_19 x2 x3 = some (.inr 1) ∧ j_M_isProblem_9 x2 x3 = some 0) ∨ (j_Mp_checkProblem_19 x2 x3 = some (.inl ()) ∧ j_M_isProblem_9 x2 x3 = some 1 ∧ ∃ k g m, k < 2 ∧ g < 2 ∧ m ≤ 2 ∧ x1 = nI k ∧ x2 = nI g ∧ x3 = nI (m + 1))) := by
    intro k hk e1
    unfold j_M_isProblem_9
    by_cases a : x2 = 0
    · rw [if_pos a]
      exact key k 0 hk (by omega) e1 a (by unfold f_Mp_checkGoal; rw [if_pos a])
    · rw [if_neg a]
      by_cases b : x2 = 1
      · rw [if_neg (fun q => q b)]
        exact key k 1 hk (by omega) e1 b (by unfold f_Mp_checkGoal; rw [if_neg a, if_pos b])
      · rw [if_pos b]
        left
        unfold j_Mp_checkProblem_19 f_Mp_checkGoal
        rw [if_neg a, if_neg b]
        exact ⟨rfl, rfl⟩
  unfold f_Mp_checkProblem f_M_isProblem
  by_cases a : x1 = 0
  · rw [if_pos a, if_pos a]; exact g19 0 (by omega) a
  · rw [if_neg a, if_neg a]
    by_cases b : x1 = 1
    · rw [if_pos b, if_neg (fun q => q b)]; exact g19 1 (by omega) b
    · rw [if_neg b, if_pos b]; exact Or.inl ⟨rfl, rfl⟩
theorem c_ask (fu : Nat) (hfu : 64 < fu) (k g : Nat) (S : SoT) : ∃ S', f_Solver_ask fu (nI k) (nI g) S = some S' ∧ SK S' k g ∧ so_hints S' 1 = -1 := by
  have key : ∀ (r m i : Nat) (S : SoT), i + r = 6 → r < m → ∃ f, l_Solver_ask_12 fu m (nI i) S = some (f, S.2) ∧ (∀ j, i ≤ j → j < 6 → f j = -1) ∧ ∀ j, j < i → f j = so_hints S j := by
    intro r
    induction r with
    | zero =>
      intro m i S hi hm
      obtain ⟨m, rfl⟩ : ∃ x, m = x + 1 := ⟨m - 1, by omega⟩
      refine ⟨so_hints S, ?_, fun x h1 h2 => by omega, fun _ _ => rfl⟩
      show b_Solver_ask_12 fu _ (nI i) S = _
      unfold b_Solver_ask_12
      rw [if_pos (show (6 : Int32) ≤ nI i from nI_le (a := 6) (by omega) (by omega))]
    | succ r ih =>
      intro m i S hi hm
      obtain ⟨m, rfl⟩ : ∃ x, m = x + 1 := ⟨m - 1, by omega⟩
      show ∃ f, b_Solver_ask_12 fu (l_Solver_ask_12 fu m) (nI i) S = _ ∧ _
      unfold b_Solver_ask_12
      rw [if_neg (show ¬ (6 : Int32) ≤ nI i from nI_ge (b := 6) (by omega) (by decide)), if_pos (pu_in (show i < 6 by omega) (by decide)), nI_clamp (by omega), nI_1]
      obtain ⟨f, e1, e2, e3⟩ := ih m (i + 1) (upd (so_hints S) i (-1), so_kind S, so_goal S) (by omega) (by omega)
      refine ⟨f, e1, fun x h1 h2 => ?_, fun x hx => ?_⟩
      · by_cases e : x = i
        · rw [e3 x (by omega), e]
          show upd (so_hints S) i (-1) i = _
          exact upd_s _ _ _
        · exact e2 x (by omega) h2
      · rw [e3 x (by omega)]
        show upd (so_hints S) i (-1) x = _
        exact upd_o _ _ (by omega)
  obtain ⟨f, e1, e2, -⟩ := key 6 fu 0 (so_hints S, nI k, nI g) (by omega) (by omega)
  exact ⟨_, e1, ⟨rfl, rfl⟩, e2 1 (by omega) (by omega)⟩
/-- the keys -/
def kys (k g n : Nat) (z : Pz) (L : List Mv) : List Mv := L.filter (fun v => solP k g (slv k g n) (mkv v z))
theorem c_keys (fu : Nat) (hfu : 704 < fu) (k g n : Nat) (hk : k < 2) (hg : g < 2) (hn : n ≤ 2) (z : Pz) (l : StT) (hG : Gz z) (hl : l.length ≤ 8) (L : RwT) (hL : RW L (lgl z)) : ∀ (r m i : Nat) (B : BdT) (V : MvT) (F : RwT) (R : Nat → RwT) (S : SoT), i + r = (lgl z).length → r < m → CB B z l → SK S k g → RW F (kys k g n z ((lgl z).take i)) → ∃ B' V' F' R' S', l_Mp_keys_26 fu L (nI (n + 1)) m (nI i) B V F R S = some (.inl (nI (kys k g n z (lgl z)).length), B', V', F', R', S') ∧ CB B' z l ∧ RW F' (kys k g n z (lgl z)) := by
  have h704 := lgl704 hG
  have href : KRef (g_Solver fu 8).2 k g n 1 := (cs_all okN_holds fu hfu (okC_of okN_holds fu (by omega)) k g hk hg n hn).2.1 8 1 (by omega) (by omega)
  intro r
  induction r with
  | zero =>
    intro m i B V F R S hi hm hC hS hF
    obtain ⟨m, rfl⟩ : ∃ x, m = x + 1 := ⟨m - 1, by omega⟩
    rw [List.take_of_length_le (by omega)] at hF
    refine ⟨B, V, F, R, S, ?_, hC, hF⟩
    show b_Mp_keys_26 fu L (nI (n + 1)) _ (nI i) B V F R S = _
    unfold b_Mp_keys_26
    rw [hL.1, if_pos (nI_le (by omega) (by omega)), hF.1]
  | succ r ih =>
    intro m i B V F R S hi hm hC hS hF
    obtain ⟨m, rfl⟩ : ∃ x, m = x + 1 := ⟨m - 1, by omega⟩
    show ∃ B' V' F' R' S', b_Mp_keys_26 fu L (nI (n + 1)) (l_Mp_keys_26 fu L (nI (n + 1)) m) (nI i) B V F R S = _ ∧ _
    unfold b_Mp_keys_26
    obtain ⟨v, g1, g2, g3⟩ := getq (P := lgl z) (i := i) (by omega)
    obtain ⟨p1, p2, p3, p4⟩ := lgl_ok hG g2
    have hi704 : am_in (nI i) 704 = true := pu_in (by omega) (by decide)
    rw [hL.1, if_neg (nI_ge (by omega) (by omega)), if_pos hi704, nI_clamp (by omega), hL.2 i v g1]
    obtain ⟨B1, e1, e2⟩ := cb_make B z l hC (by omega) hG.1.1 v.1 v.2.1 v.2.2 p3
    rw [show f_Board_make (cd v) B = _ from e1]
    simp only [Option.bind_some]
    obtain ⟨rr, B2, V2, R2, S2, a1, a2, -, a4, a5, a6⟩ := href (mkv v z) _ B1 V R S p4 e2 (by simp only [List.length_cons]; omega) hS
    rw [show f_Solver_refutation fu (nI (n + 1)) (1 : Int32) B1 V R S = _ from a1]
    simp only [Option.bind_some]
    obtain ⟨B3, f1, f2⟩ := cb_unv B2 z l (by omega) hG v p1 a4
    unfold j_Mp_keys_85
    rw [f1]
    simp only [Option.bind_some]
    rw [nI_1]
    have htk : kys k g n z ((lgl z).take (i + 1)) = kys k g n z ((lgl z).take i) ++ (if solP k g (slv k g n) (mkv v z) = true then [v] else []) := by
      unfold kys
      rw [g3, List.filter_append]
      congr 1
      cases hq : solP k g (slv k g n) (mkv v z) <;> simp [hq]
    have hlen : (kys k g n z ((lgl z).take i)).length ≤ i := by
      have := List.length_filter_le (fun v => solP k g (slv k g n) (mkv v z)) ((lgl z).take i)
      rw [List.length_take] at this
      unfold kys
      omega
    by_cases hm1 : rr = -1
    · rw [if_neg (fun q => q hm1), if_pos hi704]
      rw [if_pos (a2.mp hm1)] at htk
      obtain ⟨F1, c1, c2⟩ := rw_add hF v (by omega)
      rw [c1]
      simp only [Option.bind_some]
      exact ih m (i + 1) B3 V2 F1 R2 S2 (by omega) (by omega) f2 a5 (by rw [htk]; exact c2)
    · rw [if_pos hm1]
      rw [if_neg (fun q => hm1 (a2.mpr q)), List.append_nil] at htk
      exact ih m (i + 1) B3 V2 F R2 S2 (by omega) (by omega) f2 a5 (by rw [htk]; exact hF)
theorem r_keys (fu : Nat) (hfu : 704 < fu) (E : ThT) (k g n : Nat) (hk : k < 2) (hg : g < 2) (hn : n ≤ 2) (z : Pz) (hG : Gz z) : ∀ (r m i : Nat) (Q : PoT) (U : UnT) (Y : LiT) (K : KeT), i + r = (lgl z).length → r < m → RQ Q z → (∀ i v, (lgl z)[i]? = some v → li_lists Y i = cd v) → KK K (kys k g n z ((lgl z).take i)) → ∃ Q' U' Y' K', l_M_keys_42 fu E (nI k) (nI g) (nI (n + 1)) (nI (lgl z).length) m (nI i) Q U Y K = some (nI (kys k g n z (lgl z)).length, E, Q', U', Y', K') ∧ RQ Q' z ∧ KK K' (kys k g n z (lgl z)) := by
  have h704 := lgl704 hG
  have hsv : KSv (g_M_isSolved fu 12).2.1 k g (n + 1) 0 (solP k g (slv k g n)) := (rs_all okN_holds fu hfu k g hk hg n hn).2.1 12 0 (by omega) (by omega)
  intro r
  induction r with
  | zero =>
    intro m i Q U Y K hi hm hQ hY hK
    obtain ⟨m, rfl⟩ : ∃ x, m = x + 1 := ⟨m - 1, by omega⟩
    rw [List.take_of_length_le (by omega)] at hK
    refine ⟨Q, U, Y, K, ?_, hQ, hK⟩
    show b_M_keys_42 fu E (nI k) (nI g) (nI (n + 1)) (nI (lgl z).length) _ (nI i) Q U Y K = _
    unfold b_M_keys_42
    rw [if_pos (nI_le (by omega) (by omega)), hK.1]
  | succ r ih =>
    intro m i Q U Y K hi hm hQ hY hK
    obtain ⟨m, rfl⟩ : ∃ x, m = x + 1 := ⟨m - 1, by omega⟩
    show ∃ Q' U' Y' K', b_M_keys_42 fu E (nI k) (nI g) (nI (n + 1)) (nI (lgl z).length) (l_M_keys_42 fu E (nI k) (nI g) (nI (n + 1)) (nI (lgl z).length) m) (nI i) Q U Y K = _ ∧ _
    unfold b_M_keys_42 j_M_keys_92
    obtain ⟨v, g1, g2, g3⟩ := getq (P := lgl z) (i := i) (by omega)
    rw [if_neg (nI_ge (by omega) (by omega)), if_pos (pu_in (show i < 20480 by omega) (by decide)), nI_clamp (by omega), hY i v g1, nI_1]
    obtain ⟨Q1, U1, Y1, q1, q2, q3⟩ := hsv z v Q U Y hG g2 hQ
    rw [show f_M_solves fu (nI k) (nI g) (nI (n + 1)) (0 : Int32) (cd v) Q U Y = _ from q1]
    simp only [Option.bind_some]
    have hY1 : ∀ j u, (lgl z)[j]? = some u → li_lists Y1 j = cd u := fun j u hu => by
      have hj : j < (lgl z).length := (List.getElem?_eq_some_iff.mp hu).1
      rw [q3.2 j (by omega)]; exact hY j u hu
    have htk : kys k g n z ((lgl z).take (i + 1)) = kys k g n z ((lgl z).take i) ++ (if solP k g (slv k g n) (mkv v z) = true then [v] else []) := by
      unfold kys
      rw [g3, List.filter_append]
      congr 1
      cases hq : solP k g (slv k g n) (mkv v z) <;> simp [hq]
    have hlen : (kys k g n z ((lgl z).take i)).length ≤ i := by
      have := List.length_filter_le (fun v => solP k g (slv k g n) (mkv v z)) ((lgl z).take i)
      rw [List.length_take] at this
      unfold kys
      omega
    cases hs : solP k g (slv k g n) (mkv v z) with
    | false =>
      rw [if_pos (by decide)]
      rw [hs, if_neg (by decide), List.append_nil] at htk
      exact ih m (i + 1) Q1 U1 Y1 K (by omega) (by omega) q2 hY1 (by rw [htk]; exact hK)
    | true =>
      rw [hs, if_pos rfl] at htk
      rw [if_neg (by decide), hK.1, if_pos (pu_in (show (kys k g n z ((lgl z).take i)).length < 2048 by omega) (by decide)), nI_clamp (by omega), nI_1]
      refine ih m (i + 1) Q1 U1 Y1 _ (by omega) (by omega) q2 hY1 ⟨?_, fun j u hu => ?_⟩
      · show nI _ = nI _
        rw [htk]; simp
      · show upd (ke_keyMoves K) (kys k g n z ((lgl z).take i)).length (cd v) j = cd u
        rw [htk, List.getElem?_append] at hu
        by_cases hj : j < (kys k g n z ((lgl z).take i)).length
        · rw [if_pos hj] at hu
          rw [upd_o _ _ (by omega)]
          exact hK.2 j u hu
        · rw [if_neg hj] at hu
          have : j - (kys k g n z ((lgl z).take i)).length = 0 := by
            apply Classical.byContradiction
            intro q
            obtain ⟨a, ha⟩ := Nat.exists_eq_succ_of_ne_zero q
            rw [ha] at hu
            cases hu
          rw [this] at hu
          cases hu
          rw [show j = (kys k g n z ((lgl z).take i)).length by omega, upd_s]
theorem op_keys (fu : Nat) (hfu : 704 < fu) (x1 x2 x3 : Int32) (O : OuT) (q : CtT) (E : ThT) (G : RtT) (Q : PoT) (A : PaT) (U : UnT) (Y : LiT) (K : KeT) (T : TxT) (B : BdT) (V : MvT) (L F : RwT) (R : Nat → RwT) (S : SoT) (P : HeT) (h : LI G Q A K T B L F P) : ∃ kk O' q' B' V' F' R' S' rr e Q' U' Y' K', f_L_keys fu x1 x2 x3 O q B V L F R S = some (kk, O', q', B', V', F', R', S') ∧ f_M_keys fu x1 x2 x3 E Q U Y K = some (rr, e, Q', U', Y', K') ∧ TH kk O' q q' rr e ∧ LI G Q' A K' T B' L F' P := by
  obtain ⟨tx, z, l, ks, hT, hPI, hF, hks, hK⟩ := h
  unfold f_L_keys f_Mp_keys f_M_keys j_M_keys_15
  rcases pr_ok x1 x2 x3 with ⟨e1, e2⟩ | ⟨e1, e2, k, g, n, hk, hg, hn, rfl, rfl, rfl⟩
  · rw [e1, e2]
    simp only [Option.bind_some]
    rw [if_pos trivial, if_pos trivial, if_neg (by decide)]
    exact ⟨_, _, _, _, _, _, _, _, _, _, _, _, _, _, rfl, rfl, ⟨rfl, fun q => absurd q (by decide), Or.inr rfl⟩, tx, z, l, ks, hT, hPI, hF, hks, hK⟩
  · rw [e1, e2]
    simp only [Option.bind_some]
    have hPI' := hPI
    obtain ⟨hG, hC, hl, hW, hQ, hpl, hPA, hL, hH⟩ := hPI'
    have h704 := lgl704 hG
    obtain ⟨S1, s1, s2, -⟩ := c_ask fu (by omega) k g S
    rw [s1]
    simp only [Option.bind_some]
    obtain ⟨B1, V1, F1, R1, S2, a1, a2, a3⟩ := c_keys fu hfu k g n hk hg hn z l hG hl L hL (lgl z).length fu 0 B V (rw_told F, 0) R S1 (by omega) (by omega) hC s2 (rw_nil F)
    rw [show l_Mp_keys_26 fu L (nI (n + 1)) fu (0 : Int32) B V (rw_told F, 0) R S1 = _ from a1]
    simp only [Option.bind_some]
    rw [if_pos (th_0 O q (nI (kys k g n z (lgl z)).length)).1, if_neg (by decide), if_pos (by decide)]
    obtain ⟨Q1, U1, Y1, q1, q2, q3, q4⟩ := rf_list fu (by omega) z hG (okN_holds z hG) 0 (by omega) Q U Y hQ
    rw [show f_M_list fu (0 : Int32) Q U Y = _ from q1]
    simp only [Option.bind_some]
    obtain ⟨Q2, U2, Y2, K2, b1, b2, b3⟩ := r_keys fu hfu 0 k g n hk hg hn z hG (lgl z).length fu 0 Q1 U1 Y1 (0, ke_keyMoves K) (by omega) (by omega) q2 (fun i v hv => by
      have := q4.1 i v hv
      rw [show 2048 * 0 + i = i by omega] at this
      exact this) (kk_nil K)
    rw [show l_M_keys_42 fu 0 (nI k) (nI g) (nI (n + 1)) (nI (lgl z).length) fu (0 : Int32) Q1 U1 Y1 (0, ke_keyMoves K) = _ from b1]
    have hlen : (kys k g n z (lgl z)).length ≤ 704 := by
      have := List.length_filter_le (fun v => solP k g (slv k g n) (mkv v z)) (lgl z)
      unfold kys
      omega
    exact ⟨_, _, _, _, _, _, _, _, _, _, _, _, _, _, rfl, rfl, (th_0 O q _).2, tx, z, l, _, hT, ⟨hG, a2, hl, hW, b2, hpl, hPA, hL, hH⟩, a3, hlen, b3⟩
theorem pi_b {Q Q' : PoT} {A : PaT} {B B' : BdT} {L : RwT} {P : HeT} {z : Pz} {l : StT} (h : PI Q A B L P z l) (hQ : RQ Q' z) (hB : CB B' z l) : PI Q' A B' L P z l := by
  obtain ⟨h1, h2, h3, h4, -, h6, h7, h8, h9⟩ := h
  exact ⟨h1, hB, h3, h4, hQ, h6, h7, h8, h9⟩
theorem op_least (fu : Nat) (hfu : 704 < fu) (x1 x2 x3 : Int32) (O : OuT) (q : CtT) (E : ThT) (G : RtT) (Q : PoT) (A : PaT) (U : UnT) (Y : LiT) (K : KeT) (T : TxT) (B : BdT) (V : MvT) (L F : RwT) (R : Nat → RwT) (S : SoT) (P : HeT) (h : LI G Q A K T B L F P) : ∃ kk O' q' B' V' R' S' rr e Q' U' Y', f_L_least fu x1 x2 x3 O q B V R S = some (kk, O', q', B', V', R', S') ∧ f_M_least fu x1 x2 x3 E Q U Y = some (rr, e, Q', U', Y') ∧ TH kk O' q q' rr e ∧ LI G Q' A K T B' L F P := by
  obtain ⟨tx, z, l, ks, hT, hPI, hF, hks, hK⟩ := h
  unfold f_L_least f_Mp_least f_M_least j_M_least_15
  rcases pr_ok x1 x2 x3 with ⟨e1, e2⟩ | ⟨e1, e2, k, g, n, hk, hg, hn, rfl, rfl, rfl⟩
  · rw [e1, e2]
    simp only [Option.bind_some]
    rw [if_pos trivial, if_pos trivial]
    obtain ⟨f, rfl⟩ : ∃ f, fu = f + 1 := ⟨fu - 1, by omega⟩
    have hex : ∀ x3 : Int32, l_M_least_24 (f + 1) 1 x1 x2 x3 (f + 1) (0 : Int32) (1 : Int32) Q U Y = some (0, 1, Q, U, Y) := by
      intro x3
      show b_M_least_24 (f + 1) 1 x1 x2 x3 _ (0 : Int32) (1 : Int32) Q U Y = _
      unfold b_M_least_24
      by_cases w : x3 < 1
      · rw [if_pos w]
      · rw [if_neg w, if_pos (by decide)]
    rw [hex]
    exact ⟨_, _, _, _, _, _, _, _, _, _, _, _, rfl, rfl, ⟨rfl, fun q => absurd q (by decide), Or.inr rfl⟩, tx, z, l, ks, hT, hPI, hF, hks, hK⟩
  · rw [e1, e2]
    simp only [Option.bind_some]
    have hPI' := hPI
    obtain ⟨hG, hC, hl, hW, hQ, hpl, hPA, hL, hH⟩ := hPI'
    obtain ⟨S1, s1, s2, -⟩ := c_ask fu (by omega) k g S
    rw [s1]
    simp only [Option.bind_some]
    rw [if_neg (show ¬ (1 : Int32) = 0 by decide)]
    have hca := fun m hm => (cs_all okN_holds fu hfu (okC_of okN_holds fu (by omega)) k g hk hg m hm).2.2 8 0
    have hra := fun m hm => (rs_all okN_holds fu hfu k g hk hg m hm).2.2 12 0
    have key : ∀ (r a b i : Nat) (B : BdT) (V : MvT) (R : Nat → RwT) (S : SoT) (Q : PoT) (U : UnT) (Y : LiT), i + r = n + 2 → 1 ≤ i → r < a → r < b → CB B z l → SK S k g → RQ Q z → ∃ res B' V' R' S' Q' U' Y', l_Mp_least_18 fu (nI (n + 1)) a (nI i) B V R S = some (.inl res, B', V', R', S') ∧ l_M_least_24 fu 0 (nI k) (nI g) (nI (n + 1)) b 0 (nI i) Q U Y = some (res, 0, Q', U', Y') ∧ CB B' z l ∧ RQ Q' z := by
      intro r
      induction r with
      | zero =>
        intro a b i B V R S Q U Y hi h1 ha hb hC hS hQ
        obtain ⟨a, rfl⟩ : ∃ x, a = x + 1 := ⟨a - 1, by omega⟩
        obtain ⟨b, rfl⟩ : ∃ x, b = x + 1 := ⟨b - 1, by omega⟩
        refine ⟨0, B, V, R, S, Q, U, Y, ?_, ?_, hC, hQ⟩
        · show b_Mp_least_18 fu (nI (n + 1)) _ (nI i) B V R S = _
          unfold b_Mp_least_18
          rw [if_pos (nI_lt (by omega) (by omega))]
        · show b_M_least_24 fu 0 (nI k) (nI g) (nI (n + 1)) _ 0 (nI i) Q U Y = _
          unfold b_M_least_24
          rw [if_pos (nI_lt (by omega) (by omega))]
      | succ r ih =>
        intro a b i B V R S Q U Y hi h1 ha hb hC hS hQ
        obtain ⟨a, rfl⟩ : ∃ x, a = x + 1 := ⟨a - 1, by omega⟩
        obtain ⟨b, rfl⟩ : ∃ x, b = x + 1 := ⟨b - 1, by omega⟩
        obtain ⟨i, rfl⟩ : ∃ x, i = x + 1 := ⟨i - 1, by omega⟩
        show ∃ res B' V' R' S' Q' U' Y', b_Mp_least_18 fu (nI (n + 1)) (l_Mp_least_18 fu (nI (n + 1)) a) (nI (i + 1)) B V R S = _ ∧ b_M_least_24 fu 0 (nI k) (nI g) (nI (n + 1)) (l_M_least_24 fu 0 (nI k) (nI g) (nI (n + 1)) b) 0 (nI (i + 1)) Q U Y = _ ∧ _
        unfold b_Mp_least_18 b_M_least_24 j_M_least_60
        rw [if_neg (nI_nlt (by omega) (by omega)), if_neg (nI_nlt (by omega) (by omega)), if_neg (fun w => w rfl), if_neg (fun w => w rfl)]
        obtain ⟨B1, V1, R1, S1, c1, c2, c3, c4⟩ := hca i (by omega) (by omega) (by omega) z l B V R S hG hC (by omega) hS
        obtain ⟨Q1, U1, Y1, d1, d2, d3⟩ := hra i (by omega) (by omega) (by omega) z Q U Y hG hQ
        rw [show f_Solver_hasKey fu (nI (i + 1)) (0 : Int32) B V R S = _ from c1, show f_M_isSolved fu (nI k) (nI g) (nI (i + 1)) (0 : Int32) Q U Y = _ from d1]
        simp only [Option.bind_some]
        cases hs : slv k g (i + 1) z with
        | false =>
          rw [if_pos (by decide), if_pos (by decide), nI_1]
          exact ih a b (i + 1 + 1) B1 V1 R1 S1 Q1 U1 Y1 (by omega) (by omega) (by omega) (by omega) c2 c3 d2
        | true =>
          rw [if_neg (by decide), if_neg (by decide), nI_1]
          obtain ⟨b, rfl⟩ : ∃ x, b = x + 1 := ⟨b - 1, by omega⟩
          refine ⟨nI (i + 1), B1, V1, R1, S1, Q1, U1, Y1, rfl, ?_, c2, d2⟩
          show b_M_least_24 fu 0 (nI k) (nI g) (nI (n + 1)) _ (nI (i + 1)) (nI (i + 1 + 1)) Q1 U1 Y1 = _
          unfold b_M_least_24
          by_cases w : nI (n + 1) < nI (i + 1 + 1)
          · rw [if_pos w]
          · rw [if_neg w, if_neg (fun w => w rfl), if_pos (show ¬ nI (i + 1) = (0 : Int32) from nI_ne0 (by omega) (by omega))]
    obtain ⟨res, B1, V1, R1, S2, Q1, U1, Y1, k1, k2, k3, k4⟩ := key (n + 1) fu fu 1 B V R S1 Q U Y (by omega) (by omega) (by omega) (by omega) hC s2 hQ
    rw [show l_Mp_least_18 fu (nI (n + 1)) fu (1 : Int32) B V R S1 = _ from k1, show l_M_least_24 fu 0 (nI k) (nI g) (nI (n + 1)) fu (0 : Int32) (1 : Int32) Q U Y = _ from k2]
    simp only [Option.bind_some]
    rw [if_pos (th_0 O q res).1]
    exact ⟨_, _, _, _, _, _, _, _, _, _, _, _, rfl, rfl, (th_0 O q res).2, tx, z, l, ks, hT, pi_b hPI k4 k3, hF, hks, hK⟩
