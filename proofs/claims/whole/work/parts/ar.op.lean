/-! CALLS: the lines in which both sides help -/
theorem hp_ok (x1 x2 : Int32) : (f_Mp_checkHelp x1 x2 = some (.inr 1) ∧ f_M_isHelp x1 x2 = some 0) ∨ (f_Mp_checkHelp x1 x2 = some (.inl ()) ∧ f_M_isHelp x1 x2 = some 1 ∧ ∃ g n, g < 2 ∧ (n = 1 ∨ n = 2) ∧ x1 = nI g ∧ x2 = nI n) := by
  have key : ∀ g, g < 2 → x1 = nI g → f_Mp_checkGoal x1 = some (.inl ()) → ((f_Mp_checkHelp x1 x2 = some (.inr 1) ∧ j_M_isHelp_9 x2 = some 0) ∨ (f_Mp_checkHelp x1 x2 = some (.inl ()) ∧ j_M_isHelp_9 x2 = some 1 ∧ ∃ g n, g < 2 ∧ (n = 1 ∨ n = 2) ∧ x1 = nI g ∧ x2 = nI n)) := by
    intro g hg e1 hc
    unfold f_Mp_checkHelp j_M_isHelp_9
    rw [hc]
    simp only [Option.bind_some]
    have t1 : (1 : Int32).toInt = 1 := by decide
    have t2 : (2 : Int32).toInt = 2 := by decide
    by_cases a : x2 = 1
    · rw [if_pos a, if_neg (by rw [a]; decide), if_pos (by rw [a]; decide)]
      exact Or.inr ⟨rfl, rfl, g, 1, hg, Or.inl rfl, e1, a⟩
    · rw [if_neg a]
      by_cases b : x2 = 2
      · rw [if_neg (show ¬ ¬ x2 = 2 from fun w => w b), if_neg (by rw [b]; decide), if_pos (by rw [b]; decide)]
        exact Or.inr ⟨rfl, rfl, g, 2, hg, Or.inr rfl, e1, b⟩
      · rw [if_pos b]
        left
        by_cases c : x2 < 1
        · rw [if_pos c]; exact ⟨rfl, rfl⟩
        · rw [if_neg c, if_neg (fun w => by
            rw [Int32.lt_iff_toInt_lt] at c
            rw [Int32.le_iff_toInt_le] at w
            rcases (show x2.toInt = 1 ∨ x2.toInt = 2 by omega) with d | d
            · exact a (Int32.toInt_inj.mp (by rw [d, t1]))
            · exact b (Int32.toInt_inj.mp (by rw [d, t2])))]
          exact ⟨rfl, rfl⟩
  unfold f_M_isHelp
  by_cases a : x1 = 0
  · rw [if_pos a]
    exact key 0 (by omega) a (by unfold f_Mp_checkGoal; rw [if_pos a])
  · rw [if_neg a]
    by_cases b : x1 = 1
    · rw [if_neg (fun q => q b)]
      exact key 1 (by omega) b (by unfold f_Mp_checkGoal; rw [if_neg a, if_pos b])
    · rw [if_pos b]
      left
      unfold f_Mp_checkHelp f_Mp_checkGoal
      rw [if_neg a, if_neg b]
      exact ⟨rfl, rfl⟩
theorem pfx_nil (L : List (List Mv)) : ([] : List (List Mv)) ++ pfx [] L = L := by
  show [] ++ L.map (fun x => [] ++ x) = L
  simp
theorem hln_len (g : Nat) : ∀ (n : Nat) (z : Pz) (x : List Mv), x ∈ hln g n z → x.length = n
  | 0, z, x, h => by
    unfold hln at h
    by_cases hb : btn z g = true
    · rw [if_pos hb] at h
      rw [List.mem_singleton.mp h]; rfl
    · rw [if_neg hb] at h; cases h
  | n + 1, z, x, h => by
    unfold hln at h
    obtain ⟨v, h1, h2⟩ := List.mem_flatMap.mp h
    obtain ⟨y, h3, rfl⟩ := List.mem_map.mp h2
    rw [List.length_cons, hln_len g n (mkv v z) y h3]
theorem mul2 (k : Nat) : (2 : Int32) * nI k = nI (2 * k) := (Int32.ofNat_mul 2 k).symm
theorem c_knows (g n a : Nat) (hg : g < 2) (hn : n = 1 ∨ n = 2) (ha : a < 2 ^ 31) (P : HeT) (z : Pz) (hP : HP P z) : (f_HelpLines_knows (nI g) (nI n) (nI a) P = some (1, P) ∧ ∃ fk, fk < 2 ^ 31 ∧ HI P g (2 * n) fk (hln g (2 * n) z) ∧ (fk = a - a % 1024 ∨ ¬ nI a < he_count P)) ∨ (∃ P', f_HelpLines_knows (nI g) (nI n) (nI a) P = some (0, P') ∧ HI P' g (2 * n) (a - a % 1024) []) := by
  have e4 : nI a - (nI a - nI a / (1024 : Int32) * (1024 : Int32)) = nI (a - a % 1024) := by
    rw [show nI a - nI a / (1024 : Int32) * (1024 : Int32) = nI (a % 1024) from pk_rem (d := 1024) ha (by omega) (by omega), nI_sub (Nat.mod_le _ _)]
  have h65 : ∃ P', j_HelpLines_knows_65 P (nI g) (nI n) (nI (a - a % 1024)) = some (0, P') ∧ HI P' g (2 * n) (a - a % 1024) [] := by
    unfold j_HelpLines_knows_65
    rw [mul2]
    exact ⟨_, rfl, rfl, rfl, rfl, rfl, rfl, fun i x _ _ h => by cases h⟩
  unfold f_HelpLines_knows j_HelpLines_knows_38 j_HelpLines_knows_39
  rw [e4, mul2, if_pos (show (0 : Int32) = 0 from rfl), if_neg (show ¬ (1 : Int32) = 0 by decide)]
  by_cases c1 : he_known P = 0
  · rw [if_pos c1]; exact Or.inr h65
  · rw [if_neg c1]
    rcases hP with hP | ⟨g', n', fk, hg', hn', hfk, hI⟩
    · exact absurd hP c1
    · by_cases c2 : he_goal P = nI g
      · rw [if_neg (fun w => w c2)]
        by_cases c3 : he_plies P = nI (2 * n)
        · rw [if_neg (fun w => w c3)]
          rw [hI.2.2.1] at c2
          rw [hI.2.2.2.1] at c3
          have d2 := (nI_eq (by omega) (by omega)).mp c2
          have d3 := (nI_eq (by omega) (by omega)).mp c3
          obtain rfl : n' = n := by omega
          subst d2
          rw [hI.1]
          by_cases c4 : nI (a - a % 1024) = nI fk
          · rw [if_pos c4]
            exact Or.inl ⟨rfl, fk, hfk, hI, Or.inl ((nI_eq (by omega) hfk).mp c4).symm⟩
          · rw [if_neg c4]
            by_cases c5 : nI a < he_count P
            · rw [if_pos c5]; exact Or.inr h65
            · rw [if_neg c5]; exact Or.inl ⟨rfl, fk, hfk, hI, Or.inr c5⟩
        · rw [if_pos c3]; exact Or.inr h65
      · rw [if_pos c2]; exact Or.inr h65
theorem c_walk (fu : Nat) (hfu : 704 < fu) (g n fk : Nat) (hg : g < 2) (hn : n = 1 ∨ n = 2) (hfk : fk < 2 ^ 31) (z : Pz) (l : StT) (B : BdT) (V : MvT) (R : Nat → RwT) (P : HeT) (hG : Gz z) (hC : CB B z l) (hl : l.length ≤ 8) (hI : HI P g (2 * n) fk []) : ∃ B' V' R' P', f_HelpLines_walk fu (0 : Int32) B V R P = some (B', V', R', P') ∧ CB B' z l ∧ HI P' g (2 * n) fk (hln g (2 * n) z) := by
  have hw : KWk (g_HelpLines fu 8) g (2 * n) fk 0 := hc_all okN_holds fu hfu (okC_of okN_holds fu (by omega)) g (2 * n) fk hg (by omega) hfk (2 * n) 8 0 (by omega) (by omega) (by omega)
  obtain ⟨B', V', R', P', e1, e2, e3, e4, e5⟩ := hw z l B V R P [] [] hG hC (by omega) rfl (fun j v h => by cases h) hI (by rw [pfx_nil]; exact hln_lt g n hn hG)
  rw [pfx_nil] at e4
  exact ⟨B', V', R', P', e1, e2, e4⟩
theorem r_cl (fu : Nat) (hfu : 704 < fu) (g n : Nat) (hg : g < 2) (hn : n = 1 ∨ n = 2) (z : Pz) (b0 : Int32) (Q : PoT) (U : UnT) (Y : LiT) (H : HlT) (hG : Gz z) (hQ : RQ Q z) : ∃ Q' U' Y' H', f_M_countLines fu (nI g) ((2 : Int32) * nI n) (0 : Int32) Q U Y (b0, (0 : Int32), hl_helpLine H, hl_tried H) = some (nI (hln g (2 * n) z).length, Q', U', Y', H') ∧ RQ Q' z ∧ HJ H' b0 (hln g (2 * n) z) := by
  have hw : KCl (g_M_countLines fu 12) g (2 * n) 0 := rc_all okN_holds fu hfu g hg (2 * n) 12 0 (by omega) (by omega)
  obtain ⟨Q', U', Y', H', e1, e2, e3, e4, e5⟩ := hw z Q U Y (b0, (0 : Int32), hl_helpLine H, hl_tried H) [] [] b0 hG hQ rfl (fun j v h => by cases h) ⟨(Int32.sub_zero b0).symm, Or.inl ⟨rfl, fun i hi => by cases hi⟩⟩
  rw [pfx_nil] at e4
  rw [mul2]
  exact ⟨Q', U', Y', H', e1, e2, e4⟩
theorem pi_h {Q Q' : PoT} {A : PaT} {B B' : BdT} {L : RwT} {P P' : HeT} {z : Pz} {l : StT} (h : PI Q A B L P z l) (hQ : RQ Q' z) (hB : CB B' z l) (hP : HP P' z) : PI Q' A B' L P' z l := by
  obtain ⟨h1, h2, h3, h4, -, h6, h7, h8, h9⟩ := h
  exact ⟨h1, hB, h3, h4, hQ, h6, h7, h8, hP⟩
theorem op_lines (fu : Nat) (hfu : 704 < fu) (x1 x2 : Int32) (O : OuT) (q : CtT) (E : ThT) (G : RtT) (Q : PoT) (A : PaT) (U : UnT) (Y : LiT) (K : KeT) (H : HlT) (T : TxT) (B : BdT) (V : MvT) (L F : RwT) (R : Nat → RwT) (P : HeT) (h : LI G Q A K T B L F P) : ∃ kk O' q' B' V' R' P' rr e Q' U' Y' H', f_L_lines fu x1 x2 O q B V R P = some (kk, O', q', B', V', R', P') ∧ f_M_lines fu x1 x2 E Q U Y H = some (rr, e, Q', U', Y', H') ∧ TH kk O' q q' rr e ∧ LI G Q' A K T B' L F P' := by
  obtain ⟨tx, z, l, ks, hT, hPI, hF, hks, hK⟩ := h
  unfold f_L_lines f_Mp_lines f_M_lines j_M_lines_14
  rcases hp_ok x1 x2 with ⟨e1, e2⟩ | ⟨e1, e2, g, n, hg, hn, rfl, rfl⟩
  · rw [e1, e2]
    simp only [Option.bind_some]
    rw [if_pos trivial, if_pos trivial, if_neg (by decide)]
    exact ⟨_, _, _, _, _, _, _, _, _, _, _, _, _, rfl, rfl, ⟨rfl, fun q => absurd q (by decide), Or.inr rfl⟩, tx, z, l, ks, hT, hPI, hF, hks, hK⟩
  · rw [e1, e2]
    simp only [Option.bind_some]
    have hPI' := hPI
    obtain ⟨hG, hC, hl, hW, hQ, hpl, hPA, hL, hH⟩ := hPI'
    rw [if_neg (show ¬ (1 : Int32) = 0 by decide), if_pos (show (0 : Int32) ≤ 0 by decide)]
    obtain ⟨Q1, U1, Y1, H1, q1, q2, q3⟩ := r_cl fu hfu g n hg hn z (-1) Q U Y H hG hQ
    rw [q1]
    simp only [Option.bind_some]
    rcases c_knows g n 0 hg hn (by omega) P z hH with ⟨k1, fk, k2, k3, k4⟩ | ⟨P1, k1, k2⟩
    · rw [show f_HelpLines_knows (nI g) (nI n) (0 : Int32) P = _ from k1]
      simp only [Option.bind_some]
      rw [if_pos (show ¬ (1 : Int32) = 0 by decide)]
      simp only [Option.bind_some]
      rw [if_pos (th_0 O q (he_count P)).1]
      rw [k3.2.2.2.2.1]
      exact ⟨_, _, _, _, _, _, _, _, _, _, _, _, _, rfl, rfl, (th_0 O q _).2, tx, z, l, ks, hT, pi_q hPI q2, hF, hks, hK⟩
    · rw [show f_HelpLines_knows (nI g) (nI n) (0 : Int32) P = _ from k1]
      simp only [Option.bind_some]
      rw [if_neg (fun w => w trivial)]
      obtain ⟨B2, V2, R2, P2, w1, w2, w3⟩ := c_walk fu hfu g n _ hg hn (by omega) z l B V R P1 hG hC hl k2
      rw [w1]
      simp only [Option.bind_some]
      rw [if_pos (th_0 O q (he_count P2)).1]
      rw [w3.2.2.2.2.1]
      exact ⟨_, _, _, _, _, _, _, _, _, _, _, _, _, rfl, rfl, (th_0 O q _).2, tx, z, l, ks, hT, pi_h hPI q2 w2 (Or.inr ⟨g, n, _, hg, hn, by omega, w3⟩), hF, hks, hK⟩
theorem c_53 (fu : Nat) (a j g n fk : Nat) (ha : a < 2 ^ 31) (hj : j < 2 * n) (hn : n = 1 ∨ n = 2) (z : Pz) (hG : Gz z) (B : BdT) (V : MvT) (R : Nat → RwT) (P : HeT) (hfk : fk < 2 ^ 31) (hI : HI P g (2 * n) fk (hln g (2 * n) z)) (h1 : fk = a - a % 1024 ∨ ¬ nI a < he_count P) (H : HlT) (hJ : HJ H (nI a) (hln g (2 * n) z)) : (j_Mp_line_53 fu B V R P (nI a) (nI j) = some (.inr 2, B, V, R, P) ∧ nI (hln g (2 * n) z).length ≤ nI a) ∨ (¬ nI (hln g (2 * n) z).length ≤ nI a ∧ j_Mp_line_53 fu B V R P (nI a) (nI j) = some (.inl (hl_helpLine H j), B, V, R, P)) := by
  unfold j_Mp_line_53
  have h32 := hln_lt g n hn hG
  by_cases c : nI a < he_count P
  · right
    rw [if_pos c]
    rcases h1 with h1 | h1
    · rw [hI.2.2.2.2.1] at c
      have hlt : a < (hln g (2 * n) z).length := by
        apply Classical.byContradiction
        intro w
        exact nI_nlt (a := a) (b := (hln g (2 * n) z).length) (by omega) ha c
      refine ⟨fun w => ?_, ?_⟩
      · rw [Int32.lt_iff_toInt_lt] at c
        rw [Int32.le_iff_toInt_le] at w
        omega
      · obtain ⟨x, x1, x2, -⟩ := drq hlt
        have hx := hln_len g (2 * n) z x x2
        obtain ⟨v, v1, v2, -⟩ := drq (P := x) (i := j) (by omega)
        have k1 := hI.2.2.2.2.2 a x (by omega) (by omega) x1 j v hj v1
        have k2 : hl_helpLine H j = cd v := by
          rcases hJ.2 with ⟨-, m⟩ | ⟨-, i, y, y1, y2, y3⟩
          · exact absurd rfl (m a hlt)
          · have hi : i < (hln g (2 * n) z).length := (List.getElem?_eq_some_iff.mp y1).1
            obtain rfl := nI_inj32 (by omega) (by omega) y2
            rw [x1] at y1
            cases y1
            exact y3 j v v1
        unfold f_HelpLines_moveOf
        rw [hI.1, nI_sub (by omega), mul4, nI_add, if_neg (nI_pos (by omega)), if_neg (show ¬ (4096 : Int32) ≤ nI (4 * (a - fk) + j) from nI_ge (b := 4096) (by omega) (by decide)), if_pos (pu_in (show 4 * (a - fk) + j < 4096 by omega) (by decide)), nI_clamp (by omega), k1, k2]
        rfl
    · exact absurd c h1
  · left
    rw [if_neg c]
    refine ⟨rfl, ?_⟩
    rw [hI.2.2.2.2.1] at c
    rw [Int32.lt_iff_toInt_lt] at c
    rw [Int32.le_iff_toInt_le]
    omega
theorem op_line (fu : Nat) (hfu : 704 < fu) (x1 x2 x3 x4 : Int32) (O : OuT) (q : CtT) (E : ThT) (G : RtT) (Q : PoT) (A : PaT) (U : UnT) (Y : LiT) (K : KeT) (H : HlT) (T : TxT) (B : BdT) (V : MvT) (L F : RwT) (R : Nat → RwT) (P : HeT) (h : LI G Q A K T B L F P) : ∃ kk O' q' B' V' R' P' rr e Q' U' Y' H', f_L_line fu x1 x2 x3 x4 O q B V R P = some (kk, O', q', B', V', R', P') ∧ f_M_line fu x1 x2 x3 x4 E Q U Y H = some (rr, e, Q', U', Y', H') ∧ TH kk O' q q' rr e ∧ LI G Q' A K T B' L F P' := by
  obtain ⟨tx, z, l, ks, hT, hPI, hF, hks, hK⟩ := h
  unfold f_L_line f_Mp_line f_M_line j_M_line_14 j_M_line_71 j_M_line_76
  rcases hp_ok x1 x2 with ⟨e1, e2⟩ | ⟨e1, e2, g, n, hg, hn, rfl, rfl⟩
  · rw [e1, e2]
    simp only [Option.bind_some]
    rw [if_pos trivial, if_pos trivial, if_neg (by decide)]
    exact ⟨_, _, _, _, _, _, _, _, _, _, _, _, _, rfl, rfl, ⟨rfl, fun q => absurd q (by decide), Or.inr rfl⟩, tx, z, l, ks, hT, hPI, hF, hks, hK⟩
  · rw [e1, e2]
    simp only [Option.bind_some]
    have hPI' := hPI
    obtain ⟨hG, hC, hl, hW, hQ, hpl, hPA, hL, hH⟩ := hPI'
    rw [if_neg (show ¬ (1 : Int32) = 0 by decide), if_pos (show (0 : Int32) ≤ 0 by decide)]
    obtain ⟨Q1, U1, Y1, H1, q1, q2, q3⟩ := r_cl fu hfu g n hg hn z x3 Q U Y H hG hQ
    rw [q1]
    simp only [Option.bind_some]
    rw [if_neg (show ¬ (2 : Int32) ≤ 0 by decide)]
    by_cases c1 : x3 < 0
    · rw [if_pos c1, if_pos c1]
      simp only [Option.bind_some]
      rw [if_neg (by decide), if_pos trivial]
      exact ⟨_, _, _, _, _, _, _, _, _, _, _, _, _, rfl, rfl, ⟨rfl, fun q => absurd q (by decide), Or.inr rfl⟩, tx, z, l, ks, hT, pi_q hPI q2, hF, hks, hK⟩
    · rw [if_neg c1, if_neg c1]
      by_cases c2 : x4 < 0
      · rw [if_pos c2, if_pos c2, ite_self]
        simp only [Option.bind_some]
        rw [if_neg (by decide), if_pos trivial]
        exact ⟨_, _, _, _, _, _, _, _, _, _, _, _, _, rfl, rfl, ⟨rfl, fun q => absurd q (by decide), Or.inr rfl⟩, tx, z, l, ks, hT, pi_q hPI q2, hF, hks, hK⟩
      · rw [if_neg c2, if_neg c2]
        by_cases c3 : x4 < (2 : Int32) * nI n
        · rw [if_pos c3, if_pos c3]
          obtain ⟨a, ha, rfl⟩ := nI_of c1
          obtain ⟨j, hj, rfl⟩ := nI_of c2
          rw [mul2] at c3
          have hj2 : j < 2 * n := by
            apply Classical.byContradiction
            intro w
            exact nI_nlt (a := j) (b := 2 * n) (by omega) hj c3
          rcases c_knows g n a hg hn ha P z hH with ⟨k1, fk, k2, k3, k4⟩ | ⟨P1, k1, k2⟩
          · rw [k1]
            simp only [Option.bind_some]
            rw [if_pos (show ¬ (1 : Int32) = 0 by decide)]
            rcases c_53 fu a j g n fk ha hj2 hn z hG B V R P k2 k3 k4 H1 q3 with ⟨m1, m2⟩ | ⟨m1, m2⟩
            · rw [m1, if_pos m2]
              simp only [Option.bind_some]
              rw [if_neg (by decide), if_pos trivial]
              exact ⟨_, _, _, _, _, _, _, _, _, _, _, _, _, rfl, rfl, ⟨rfl, fun q => absurd q (by decide), Or.inr rfl⟩, tx, z, l, ks, hT, pi_q hPI q2, hF, hks, hK⟩
            · rw [m2, if_neg m1, if_pos (show (0 : Int32) ≤ 0 by decide), if_pos (pu_in (show j < 4 by omega) (by decide)), nI_clamp hj]
              simp only [Option.bind_some]
              rw [if_pos (th_0 O q (hl_helpLine H1 j)).1]
              exact ⟨_, _, _, _, _, _, _, _, _, _, _, _, _, rfl, rfl, (th_0 O q _).2, tx, z, l, ks, hT, pi_q hPI q2, hF, hks, hK⟩
          · rw [k1]
            simp only [Option.bind_some]
            rw [if_neg (fun w => w trivial)]
            obtain ⟨B2, V2, R2, P2, w1, w2, w3⟩ := c_walk fu hfu g n _ hg hn (by omega) z l B V R P1 hG hC hl k2
            rw [w1]
            simp only [Option.bind_some]
            have fin := pi_h hPI q2 w2 (Or.inr ⟨g, n, _, hg, hn, by omega, w3⟩)
            rcases c_53 fu a j g n _ ha hj2 hn z hG B2 V2 R2 P2 (by omega) w3 (Or.inl rfl) H1 q3 with ⟨m1, m2⟩ | ⟨m1, m2⟩
            · rw [m1, if_pos m2]
              simp only [Option.bind_some]
              rw [if_neg (by decide), if_pos trivial]
              exact ⟨_, _, _, _, _, _, _, _, _, _, _, _, _, rfl, rfl, ⟨rfl, fun q => absurd q (by decide), Or.inr rfl⟩, tx, z, l, ks, hT, fin, hF, hks, hK⟩
            · rw [m2, if_neg m1, if_pos (show (0 : Int32) ≤ 0 by decide), if_pos (pu_in (show j < 4 by omega) (by decide)), nI_clamp hj]
              simp only [Option.bind_some]
              rw [if_pos (th_0 O q (hl_helpLine H1 j)).1]
              exact ⟨_, _, _, _, _, _, _, _, _, _, _, _, _, rfl, rfl, (th_0 O q _).2, tx, z, l, ks, hT, fin, hF, hks, hK⟩
        · rw [if_neg c3, if_neg c3, ite_self]
          simp only [Option.bind_some]
          rw [if_neg (by decide), if_pos trivial]
          exact ⟨_, _, _, _, _, _, _, _, _, _, _, _, _, rfl, rfl, ⟨rfl, fun q => absurd q (by decide), Or.inr rfl⟩, tx, z, l, ks, hT, pi_q hPI q2, hF, hks, hK⟩
