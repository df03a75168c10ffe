/-! CALLS: moves, move, play, back, beaten, key -/
def TH (kk : Int32) (O' : OuT) (q q' : CtT) (rr e : Int32) : Prop := e = kk ∧ (kk = 0 → O' 0 = rr.toInt64) ∧ (q' = q ∨ q' = am_qx q)
theorem pi_q {Q Q' : PoT} {A : PaT} {B : BdT} {L : RwT} {P : HeT} {z : Pz} {l : StT} (h : PI Q A B L P z l) (hQ : RQ Q' z) : PI Q' A B L P z l := by
  obtain ⟨h1, h2, h3, h4, -, h6, h7, h8, h9⟩ := h
  exact ⟨h1, h2, h3, h4, hQ, h6, h7, h8, h9⟩
theorem th_0 (O : OuT) (q : CtT) (r : Int32) : am_in (0 : Int32) 1 = true ∧ TH 0 (vp_updL O ((0 : Int32)).toNatClampNeg r.toInt64) q q r 0 := by
  refine ⟨by decide, rfl, fun _ => ?_, Or.inl rfl⟩
  show vp_updL O 0 r.toInt64 0 = _
  unfold vp_updL
  rw [if_pos rfl]
theorem op_moves (fu : Nat) (hfu : 704 < fu) (E : ThT) (G : RtT) (Q : PoT) (A : PaT) (U : UnT) (Y : LiT) (K : KeT) (T : TxT) (B : BdT) (L F : RwT) (P : HeT) (h : LI G Q A K T B L F P) : ∃ k Q' U' Y', f_Mp_moves L = some k ∧ f_M_moves fu E Q U Y = some (k, 0, Q', U', Y') ∧ LI G Q' A K T B L F P := by
  obtain ⟨tx, z, l, ks, hT, hPI, hF, hks, hK⟩ := h
  obtain ⟨Q1, U1, Y1, q1, q2, q3, q4⟩ := rf_list fu (by omega) z hPI.1 (okN_holds z hPI.1) 0 (by omega) Q U Y hPI.2.2.2.2.1
  unfold f_Mp_moves f_M_moves
  rw [show f_M_list fu (0 : Int32) Q U Y = _ from q1]
  simp only [Option.bind_some]
  exact ⟨_, Q1, U1, Y1, rfl, by rw [hPI.2.2.2.2.2.2.2.1.1], tx, z, l, ks, hT, pi_q hPI q2, hF, hks, hK⟩
theorem rw_has {w : RwT} {L : List Mv} (h : RW w L) (hl : L.length ≤ 704) (x : Int32) : (f_MoveRow_has x w = some 0 ∧ (x < 0 ∨ (¬ x < 0 ∧ nI L.length ≤ x))) ∨ (∃ k v, f_MoveRow_has x w = some 1 ∧ k < L.length ∧ x = nI k ∧ L[k]? = some v ∧ v ∈ L) := by
  unfold f_MoveRow_has
  by_cases c1 : x < 0
  · rw [if_pos c1]; exact Or.inl ⟨rfl, Or.inl c1⟩
  · rw [if_neg c1, h.1]
    obtain ⟨k, hk, e⟩ := nI_of c1
    subst e
    by_cases c2 : L.length ≤ k
    · rw [if_pos (nI_le c2 hk)]; exact Or.inl ⟨rfl, Or.inr ⟨c1, nI_le c2 hk⟩⟩
    · rw [if_neg (nI_ge (by omega) (by omega))]
      obtain ⟨v, v1, v2, -⟩ := drq (P := L) (i := k) (by omega)
      exact Or.inr ⟨k, v, rfl, by omega, rfl, v1, v2⟩
theorem lgl704 {z : Pz} (hG : Gz z) : (lgl z).length ≤ 704 := Nat.le_trans (lgl_le z) (okN_holds z hG)
theorem op_move (fu : Nat) (hfu : 704 < fu) (x : Int32) (O : OuT) (q : CtT) (E : ThT) (G : RtT) (Q : PoT) (A : PaT) (U : UnT) (Y : LiT) (K : KeT) (T : TxT) (B : BdT) (L F : RwT) (P : HeT) (h : LI G Q A K T B L F P) : ∃ kk O' q' rr e Q' U' Y', f_L_move x O q L = some (kk, O', q') ∧ f_M_move fu x E Q U Y = some (rr, e, Q', U', Y') ∧ TH kk O' q q' rr e ∧ LI G Q' A K T B L F P := by
  obtain ⟨tx, z, l, ks, hT, hPI, hF, hks, hK⟩ := h
  have hL := hPI.2.2.2.2.2.2.2.1
  have h704 := lgl704 hPI.1
  obtain ⟨Q1, U1, Y1, q1, q2, q3, q4⟩ := rf_list fu (by omega) z hPI.1 (okN_holds z hPI.1) 0 (by omega) Q U Y hPI.2.2.2.2.1
  unfold f_L_move f_Mp_move f_M_move j_M_move_16 j_M_move_21
  rw [show f_M_list fu (0 : Int32) Q U Y = _ from q1]
  simp only [Option.bind_some]
  rcases rw_has hL h704 x with ⟨e1, e2⟩ | ⟨k, v, e1, e2, e3, e4, e5⟩
  · rw [e1]
    simp only [Option.bind_some]
    rw [if_neg (fun q => q trivial)]
    simp only [Option.bind_some]
    rw [if_pos trivial]
    rcases e2 with e2 | ⟨e2, e3⟩
    · rw [if_pos e2, if_neg (by decide)]
      exact ⟨_, _, _, _, _, _, _, _, rfl, rfl, ⟨rfl, fun q => absurd q (by decide), Or.inr rfl⟩, tx, z, l, ks, hT, pi_q hPI q2, hF, hks, hK⟩
    · rw [if_neg e2, if_neg (fun q => by
        rw [Int32.lt_iff_toInt_lt] at q
        rw [Int32.le_iff_toInt_le] at e3
        omega), if_neg (by decide)]
      exact ⟨_, _, _, _, _, _, _, _, rfl, rfl, ⟨rfl, fun q => absurd q (by decide), Or.inr rfl⟩, tx, z, l, ks, hT, pi_q hPI q2, hF, hks, hK⟩
  · subst e3
    rw [e1]
    simp only [Option.bind_some]
    rw [if_pos (by decide), if_pos (pu_in (show k < 704 by omega) (by decide)), nI_clamp (by omega), hL.2 k v e4]
    simp only [Option.bind_some]
    rw [if_pos (th_0 O q (cd v)).1, if_neg (nI_pos (by omega)), if_pos (nI_lt e2 (by omega)), if_pos (by decide), if_pos (pu_in (show k < 20480 by omega) (by decide))]
    have hy := q4.1 k v e4
    rw [show 2048 * 0 + k = k by omega] at hy
    rw [hy]
    exact ⟨_, _, _, _, _, _, _, _, rfl, rfl, (th_0 O q (cd v)).2, tx, z, l, ks, hT, pi_q hPI q2, hF, hks, hK⟩
theorem c_hold2 (fu : Nat) (w : RwT) (L : List Mv) (h : RW w L) (hl : L.length ≤ 704) (x : Int32) : ∀ (r m i : Nat), i + r = L.length → r < m → l_MoveRow_holds_2 fu w x m (nI i) = some (cond ((L.drop i).any (fun v => decide (cd v = x))) 1 0) := by
  intro r
  induction r with
  | zero =>
    intro m i hi hm
    obtain ⟨m, rfl⟩ : ∃ x, m = x + 1 := ⟨m - 1, by omega⟩
    show b_MoveRow_holds_2 fu w x _ (nI i) = _
    unfold b_MoveRow_holds_2
    rw [h.1, if_pos (nI_le (by omega) (by omega)), List.drop_of_length_le (by omega)]
    rfl
  | succ r ih =>
    intro m i hi hm
    obtain ⟨m, rfl⟩ : ∃ x, m = x + 1 := ⟨m - 1, by omega⟩
    obtain ⟨v, v1, v2, v3⟩ := drq (P := L) (i := i) (by omega)
    show b_MoveRow_holds_2 fu w x (l_MoveRow_holds_2 fu w x m) (nI i) = _
    unfold b_MoveRow_holds_2
    rw [h.1, if_neg (nI_ge (by omega) (by omega)), if_pos (pu_in (show i < 704 by omega) (by decide)), nI_clamp (by omega), h.2 i v v1, nI_1, v3, List.any_cons, ih m (i + 1) (by omega) (by omega)]
    by_cases e : cd v = x
    · rw [if_neg (fun q => q e), decide_eq_true e]; rfl
    · rw [if_pos e, decide_eq_false e]; rfl
theorem r_play11 (fu : Nat) (E : ThT) (Q : PoT) (A : PaT) (U : UnT) (Y : LiT) (K : KeT) (x : Int32) (L : List Mv) (hl : L.length ≤ 704) (hY : ∀ i v, L[i]? = some v → li_lists Y i = cd v) : ∀ (r m i : Nat) (b : Bool), i + r = L.length → r < m → l_M_play_11 fu E Q A U Y K x (nI L.length) m (cond b 1 0) (nI i) = some (cond (b || (L.drop i).any (fun v => decide (cd v = x))) 1 0) := by
  intro r
  induction r with
  | zero =>
    intro m i b hi hm
    obtain ⟨m, rfl⟩ : ∃ x, m = x + 1 := ⟨m - 1, by omega⟩
    show b_M_play_11 fu E Q A U Y K x (nI L.length) _ (cond b 1 0) (nI i) = _
    unfold b_M_play_11
    rw [if_pos (nI_le (by omega) (by omega)), List.drop_of_length_le (by omega)]
    simp
  | succ r ih =>
    intro m i b hi hm
    obtain ⟨m, rfl⟩ : ∃ x, m = x + 1 := ⟨m - 1, by omega⟩
    obtain ⟨v, v1, v2, v3⟩ := drq (P := L) (i := i) (by omega)
    show b_M_play_11 fu E Q A U Y K x (nI L.length) (l_M_play_11 fu E Q A U Y K x (nI L.length) m) (cond b 1 0) (nI i) = _
    unfold b_M_play_11 j_M_play_32 j_M_play_37
    have t := ih m (i + 1) true (by omega) (by omega)
    have f := ih m (i + 1) false (by omega) (by omega)
    rw [if_neg (nI_ge (by omega) (by omega)), nI_1, v3, List.any_cons]
    cases b with
    | true => rw [if_pos (by decide)]; exact t
    | false =>
      rw [if_neg (by decide), if_pos (pu_in (show i < 20480 by omega) (by decide)), nI_clamp (by omega), hY i v v1]
      by_cases e : cd v = x
      · rw [if_neg (fun q => q e), decide_eq_true e]; exact t
      · rw [if_pos e, decide_eq_false e]; exact f
theorem op_play (fu : Nat) (hfu : 704 < fu) (x : Int32) (O : OuT) (q : CtT) (E : ThT) (G : RtT) (Q : PoT) (A : PaT) (U : UnT) (Y : LiT) (K : KeT) (T : TxT) (B : BdT) (L F : RwT) (P : HeT) (h : LI G Q A K T B L F P) : ∃ kk O' q' B' L' F' P' rr e Q' A' U' Y' K', f_L_play fu x O q B L F P = some (kk, O', q', B', L', F', P') ∧ f_M_play fu x E Q A U Y K = some (rr, e, Q', A', U', Y', K') ∧ TH kk O' q q' rr e ∧ LI G Q' A' K' T B' L' F' P' := by
  obtain ⟨tx, z, l, ks, hT, hPI, hF, hks, hK⟩ := h
  have hPI' := hPI
  obtain ⟨hG, hC, hl, hW, hQ, hpl, hPA, hL, hH⟩ := hPI'
  have h704 := lgl704 hG
  obtain ⟨Q1, U1, Y1, q1, q2, q3, q4⟩ := rf_list fu (by omega) z hG (okN_holds z hG) 0 (by omega) Q U Y hQ
  have hY : ∀ i v, (lgl z)[i]? = some v → li_lists Y1 i = cd v := fun i v hv => by
    have := q4.1 i v hv
    rw [show 2048 * 0 + i = i by omega] at this
    exact this
  have c1 := c_hold2 fu L (lgl z) hL h704 x (lgl z).length fu 0 (by omega) (by omega)
  have c2 := r_play11 fu E Q1 A U1 Y1 K x (lgl z) h704 hY (lgl z).length fu 0 false (by omega) (by omega)
  rw [List.drop_zero] at c1 c2
  unfold f_L_play f_Mp_play f_MoveRow_holds f_M_play
  rw [show f_M_list fu (0 : Int32) Q U Y = _ from q1, show l_MoveRow_holds_2 fu L x fu (0 : Int32) = _ from c1]
  simp only [Option.bind_some]
  rw [show l_M_play_11 fu E Q1 A U1 Y1 K x (nI (lgl z).length) fu (0 : Int32) (0 : Int32) = _ from c2, Bool.false_or]
  simp only [Option.bind_some]
  unfold j_M_play_44 j_M_play_67
  cases hany : (lgl z).any (fun v => decide (cd v = x)) with
  | false =>
    rw [if_neg (by decide), if_neg (by decide), if_neg (by decide)]
    simp only [Option.bind_some]
    rw [if_pos trivial]
    exact ⟨_, _, _, _, _, _, _, _, _, _, _, _, _, _, rfl, rfl, ⟨rfl, fun q => absurd q (by decide), Or.inr rfl⟩, tx, z, l, ks, hT, pi_q hPI q2, hF, hks, hK⟩
  | true =>
    obtain ⟨v, v1, v2⟩ := List.any_eq_true.mp hany
    have v2 := of_decide_eq_true v2
    subst v2
    rw [if_pos (show ¬ (cond true (1 : Int32) 0) = 0 by decide), if_pos (show ¬ (cond true (1 : Int32) 0) = 0 by decide), hC.2.1, hpl]
    by_cases h8 : l.length = 8
    · rw [if_neg (show ¬ nI l.length < 8 from nI_nlt (b := 8) (by omega) (by omega)), if_neg (fun q => q (by rw [h8]; rfl)), if_neg (by decide)]
      simp only [Option.bind_some]
      rw [if_neg (by decide), if_pos trivial]
      exact ⟨_, _, _, _, _, _, _, _, _, _, _, _, _, _, rfl, rfl, ⟨rfl, fun q => absurd q (by decide), Or.inr rfl⟩, tx, z, l, ks, hT, pi_q hPI q2, hF, hks, hK⟩
    · rw [if_pos (show nI l.length < 8 from nI_lt (b := 8) (by omega) (by decide)), if_pos (show ¬ nI l.length = (8 : Int32) from fun q => h8 ((nI_eq (b := 8) (by omega) (by decide)).mp q)), if_pos (by decide)]
      obtain ⟨p1, p2, p3, p4⟩ := lgl_ok hG v1
      obtain ⟨B1, e1, e2⟩ := cb_make B z l hC (by omega) hG.1.1 v.1 v.2.1 v.2.2 p3
      rw [show f_Board_make (cd v) B = _ from e1]
      simp only [Option.bind_some]
      obtain ⟨B3, L3, F3, P3, d1, d2, d3, d4, d5⟩ := c_changed fu hfu B1 L F P (mkv v z) _ p4 e2 (by simp only [List.length_cons]; omega)
      rw [d1]
      simp only [Option.bind_some]
      obtain ⟨Q2, U2, f1, f2, f3, f4⟩ := rf_mkv Q1 U1 z q2 hG v v1 0 (by omega)
      rw [show f_M_make (cd v) (0 : Int32) Q1 U1 = _ from f1]
      simp only [Option.bind_some]
      obtain ⟨A', K', g1, g2, g3, g4⟩ := r_enter fu (by omega) Q2 (pa_pastMen A, pa_pastSide A, pa_pastRights A, pa_pastPassed A, nI l.length + 1) K (mkv v z) (z :: posl l) (by unfold posl; simp; omega) (by rw [nI_1]; unfold posl; simp) f2 (pa_cg (A := A) _ (fun _ _ => rfl) (fun _ _ => ⟨rfl, rfl, rfl⟩) hPA)
      rw [g1]
      simp only [Option.bind_some]
      rw [if_pos (th_0 O q (bd_depth B3)).1]
      have hdep : bd_depth B3 = pa_plies A' := by
        rw [g2, d2.2.1]
        unfold posl; simp
      refine ⟨_, _, _, _, _, _, _, _, _, _, _, _, _, _, rfl, rfl, ?_, tx, mkv v z, (v.1, v.2.1, v.2.2, z) :: l, [], hT, ⟨p4, d2, by simp only [List.length_cons]; omega, ⟨hG, p3, rfl, hW⟩, f2, ?_, g3, d3, d5⟩, d4, by simp, g4⟩
      · rw [← hdep]
        exact (th_0 O q (bd_depth B3)).2
      · rw [g2]; unfold posl; simp
theorem op_back (fu : Nat) (hfu : 704 < fu) (O : OuT) (q : CtT) (E : ThT) (G : RtT) (Q : PoT) (A : PaT) (K : KeT) (T : TxT) (B : BdT) (L F : RwT) (P : HeT) (h : LI G Q A K T B L F P) : ∃ kk O' q' B' L' F' P' rr e Q' A' K', f_L_back fu O q B L F P = some (kk, O', q', B', L', F', P') ∧ f_M_back fu E Q A K = some (rr, e, Q', A', K') ∧ TH kk O' q q' rr e ∧ LI G Q' A' K' T B' L' F' P' := by
  obtain ⟨tx, z, l, ks, hT, hPI, hF, hks, hK⟩ := h
  have hPI' := hPI
  obtain ⟨hG, hC, hl, hW, hQ, hpl, hPA, hL, hH⟩ := hPI'
  unfold f_L_back f_Mp_back f_M_back j_M_back_13
  rw [hC.2.1, hpl]
  cases l with
  | nil =>
    rw [if_neg (fun w => w rfl), if_neg (fun w => w rfl), if_neg (by decide)]
    simp only [Option.bind_some]
    rw [if_pos trivial]
    exact ⟨_, _, _, _, _, _, _, _, _, _, _, _, rfl, rfl, ⟨rfl, fun q => absurd q (by decide), Or.inr rfl⟩, tx, z, [], ks, hT, hPI, hF, hks, hK⟩
  | cons a l =>
    obtain ⟨s, t, pr, z'⟩ := a
    obtain ⟨w1, w2, w3, w4⟩ := hW
    simp only [List.length_cons] at hl hpl
    rw [if_pos (show ¬ nI (List.length ((s, t, pr, z') :: l)) = (0 : Int32) from nI_ne0 (by simp) (by simp only [List.length_cons]; omega)), if_pos (show ¬ nI (List.length ((s, t, pr, z') :: l)) = (0 : Int32) from nI_ne0 (by simp) (by simp only [List.length_cons]; omega)), if_pos (by decide)]
    simp only [List.length_cons]
    rw [nI_pred]
    subst w3
    obtain ⟨B1, e1, e2⟩ := cb_unmake B z' l s t pr hC (by omega) w1.1.1 w1.1.2.2.1 w2
    rw [e1]
    simp only [Option.bind_some]
    obtain ⟨B3, L3, F3, P3, d1, d2, d3, d4, d5⟩ := c_changed fu hfu B1 L F P z' l w1 e2 (by omega)
    rw [d1]
    simp only [Option.bind_some]
    have hPA2 : PA (pa_pastMen A, pa_pastSide A, pa_pastRights A, pa_pastPassed A, nI l.length) (z' :: posl l) := pa_cg (A := A) _ (fun _ _ => rfl) (fun _ _ => ⟨rfl, rfl, rfl⟩) hPA.2
    have ho : oq (po_men Q) := fun i hi => by rw [hQ.1]; exact hG.1.2.2.2.2.2.2 i hi
    obtain ⟨Q2, f1, f2⟩ := r_goTo fu (by omega) Q _ z' (posl l) (by unfold posl; simp; omega) w1.1 ho hPA2
    rw [show nI (posl l).length = nI l.length from by unfold posl; simp] at f1
    rw [f1]
    simp only [Option.bind_some]
    rw [if_pos (th_0 O q (bd_depth B3)).1]
    refine ⟨_, _, _, _, _, _, _, _, _, _, _, _, rfl, rfl, ?_, tx, z', l, [], hT, ⟨w1, d2, by omega, w4, f2, rfl, hPA2, d3, d5⟩, d4, by simp, kk_nil K⟩
    have := (th_0 O q (bd_depth B3)).2
    rw [d2.2.1] at this ⊢
    exact this
theorem op_beaten (fu : Nat) (hfu : 704 < fu) (E : ThT) (G : RtT) (Q : PoT) (A : PaT) (U : UnT) (Y : LiT) (K : KeT) (T : TxT) (B : BdT) (L F : RwT) (P : HeT) (h : LI G Q A K T B L F P) : ∃ k Q' U' Y', f_Mp_beaten fu B L = some k ∧ f_M_beaten fu E Q U Y = some (k, 0, Q', U', Y') ∧ LI G Q' A K T B L F P := by
  obtain ⟨tx, z, l, ks, hT, hPI, hF, hks, hK⟩ := h
  have hG := hPI.1
  have hL := hPI.2.2.2.2.2.2.2.1
  have h704 := lgl704 hG
  obtain ⟨Q1, U1, Y1, q1, q2, q3, q4⟩ := rf_list fu (by omega) z hG (okN_holds z hG) 0 (by omega) Q U Y hPI.2.2.2.2.1
  have fin : LI G Q1 A K T B L F P := ⟨tx, z, l, ks, hT, pi_q hPI q2, hF, hks, hK⟩
  unfold f_Mp_beaten f_M_beaten
  rw [show f_M_list fu (0 : Int32) Q U Y = _ from q1, hL.1, cb_check fu (by omega) B z l hPI.2.1 hG.1.1 hG.1.2.2.1]
  simp only [Option.bind_some]
  rw [q2.2.1, rf_chk fu (by omega) Q1 z q2 hG.1.1 hG.1.2.2.1 (zc z) hG.1.1.2.1]
  simp only [Option.bind_some]
  by_cases h0 : nI (lgl z).length ≤ (0 : Int32)
  · rw [if_pos h0, if_pos h0]
    cases chk (zm z) (zc z) with
    | true => rw [if_neg (by decide), if_neg (by decide)]; exact ⟨_, _, _, _, rfl, rfl, fin⟩
    | false => rw [if_pos (by decide), if_pos (by decide)]; exact ⟨_, _, _, _, rfl, rfl, fin⟩
  · rw [if_neg h0, if_neg h0]
    exact ⟨_, _, _, _, rfl, rfl, fin⟩
theorem op_key (x : Int32) (O : OuT) (q : CtT) (E : ThT) (G : RtT) (Q : PoT) (A : PaT) (K : KeT) (T : TxT) (B : BdT) (L F : RwT) (P : HeT) (h : LI G Q A K T B L F P) : ∃ kk O' q' rr e, f_L_key x O q F = some (kk, O', q') ∧ f_M_key x E K = some (rr, e) ∧ TH kk O' q q' rr e := by
  obtain ⟨tx, z, l, ks, hT, hPI, hF, hks, hK⟩ := h
  unfold f_L_key f_Mp_key f_M_key j_M_key_13 j_M_key_18
  rw [hK.1]
  rcases rw_has hF hks x with ⟨e1, e2⟩ | ⟨k, v, e1, e2, e3, e4, e5⟩
  · rw [e1]
    simp only [Option.bind_some]
    rw [if_neg (fun q => q trivial)]
    simp only [Option.bind_some]
    rw [if_pos trivial]
    rcases e2 with e2 | ⟨e2, e3⟩
    · rw [if_pos e2, if_neg (by decide)]
      exact ⟨_, _, _, _, _, rfl, rfl, rfl, fun q => absurd q (by decide), Or.inr rfl⟩
    · rw [if_neg e2, if_neg (fun q => by
        rw [Int32.lt_iff_toInt_lt] at q
        rw [Int32.le_iff_toInt_le] at e3
        omega), if_neg (by decide)]
      exact ⟨_, _, _, _, _, rfl, rfl, rfl, fun q => absurd q (by decide), Or.inr rfl⟩
  · subst e3
    rw [e1]
    simp only [Option.bind_some]
    rw [if_pos (by decide), if_pos (pu_in (show k < 704 by omega) (by decide)), nI_clamp (by omega), hF.2 k v e4]
    simp only [Option.bind_some]
    rw [if_pos (th_0 O q (cd v)).1, if_neg (nI_pos (by omega)), if_pos (nI_lt e2 (by omega)), if_pos (by decide), if_pos (pu_in (show k < 2048 by omega) (by decide)), hK.2 k v e4]
    exact ⟨_, _, _, _, _, rfl, rfl, (th_0 O q (cd v)).2⟩
