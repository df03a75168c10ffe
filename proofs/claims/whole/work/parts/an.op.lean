/-! WHAT STANDS BETWEEN TWO CALLS -/
def PA (A : PaT) : List Pz → Prop
  | [] => True
  | z :: zs => ((∀ q, q < 64 → pa_pastMen A (64 * zs.length + q) = zm z q) ∧ pa_pastSide A zs.length = nI (zc z) ∧ pa_pastRights A zs.length = nI (zr z) ∧ pa_pastPassed A zs.length = zp z) ∧ PA A zs
theorem pa_cg {A A' : PaT} : ∀ (zs : List Pz), (∀ j, j < 64 * zs.length → pa_pastMen A' j = pa_pastMen A j) → (∀ j, j < zs.length → pa_pastSide A' j = pa_pastSide A j ∧ pa_pastRights A' j = pa_pastRights A j ∧ pa_pastPassed A' j = pa_pastPassed A j) → PA A zs → PA A' zs
  | [], _, _, _ => trivial
  | z :: zs, h1, h2, ⟨⟨p1, p2, p3, p4⟩, p5⟩ => by
    obtain ⟨q1, q2, q3⟩ := h2 zs.length (by simp)
    refine ⟨⟨fun q hq => (h1 _ (by simp only [List.length_cons]; omega)).trans (p1 q hq), q1.trans p2, q2.trans p3, q3.trans p4⟩, pa_cg zs (fun j hj => h1 j (by simp only [List.length_cons]; omega)) (fun j hj => h2 j (by simp only [List.length_cons]; omega)) p5⟩
def WL : Pz → StT → Prop
  | _, [] => True
  | z, (s, t, pr, z') :: l => Gz z' ∧ vm z' s t pr ∧ z = mk3 s t pr z' ∧ WL z' l
def posl (l : StT) : List Pz := l.map (fun q => q.2.2.2)
def KK (K : KeT) (ks : List Mv) : Prop := ke_keyCount K = nI ks.length ∧ ∀ i v, ks[i]? = some v → ke_keyMoves K i = cd v
def HP (P : HeT) (z : Pz) : Prop := he_known P = 0 ∨ ∃ g n fk, g < 2 ∧ (n = 1 ∨ n = 2) ∧ fk < 2 ^ 31 ∧ HI P g (2 * n) fk (hln g (2 * n) z)
/-- position, its past, and what is kept of it -/
def PI (Q : PoT) (A : PaT) (B : BdT) (L : RwT) (P : HeT) (z : Pz) (l : StT) : Prop := Gz z ∧ CB B z l ∧ l.length ≤ 8 ∧ WL z l ∧ RQ Q z ∧ pa_plies A = nI l.length ∧ PA A (z :: posl l) ∧ RW L (lgl z) ∧ HP P z
def LI (G : RtT) (Q : PoT) (A : PaT) (K : KeT) (T : TxT) (B : BdT) (L F : RwT) (P : HeT) : Prop := ∃ tx z l ks, TX T G tx ∧ PI Q A B L P z l ∧ RW F ks ∧ ks.length ≤ 704 ∧ KK K ks
theorem kk_nil (K : KeT) : KK (0, ke_keyMoves K) [] := ⟨rfl, fun i v h => by simp at h⟩
/-! the reference keeps positions -/
theorem r_ent2 (fu : Nat) (Q : PoT) (K : KeT) (k : Nat) (hk : k < 9) : ∀ (r m i : Nat) (A : PaT), i + r = 64 → r < m → pa_plies A = nI k → ∃ f, l_M_enter_2 fu Q K m (nI i) A = some (f, A.2) ∧ (∀ q, i ≤ q → q < 64 → f (64 * k + q) = po_men Q q) ∧ ∀ j, j < 64 * k + i → f j = pa_pastMen A j := by
  intro r
  induction r with
  | zero =>
    intro m i A hi hm hA
    obtain ⟨m, rfl⟩ : ∃ x, m = x + 1 := ⟨m - 1, by omega⟩
    refine ⟨pa_pastMen A, ?_, fun x h1 h2 => by omega, fun _ _ => rfl⟩
    show b_M_enter_2 fu Q K _ (nI i) A = _
    unfold b_M_enter_2
    rw [if_pos (show (64 : Int32) ≤ nI i from nI_le (a := 64) (by omega) (by omega))]
  | succ r ih =>
    intro m i A hi hm hA
    obtain ⟨m, rfl⟩ : ∃ x, m = x + 1 := ⟨m - 1, by omega⟩
    show ∃ f, b_M_enter_2 fu Q K (l_M_enter_2 fu Q K m) (nI i) A = _ ∧ _
    unfold b_M_enter_2
    have e64 : (64 : Int32) * nI k = nI (64 * k) := (Int32.ofNat_mul 64 k).symm
    rw [if_neg (show ¬ (64 : Int32) ≤ nI i from nI_ge (b := 64) (by omega) (by decide)), if_pos (pu_in (show i < 64 by omega) (by decide)), hA, e64, nI_add, if_pos (pu_in (show 64 * k + i < 576 by omega) (by decide)), nI_clamp (show i < _ by omega), nI_clamp (show 64 * k + i < _ by omega), nI_1]
    obtain ⟨f, e1, e2, e3⟩ := ih m (i + 1) (upd (pa_pastMen A) (64 * k + i) (po_men Q i), pa_pastSide A, pa_pastRights A, pa_pastPassed A, nI k) (by omega) (by omega) rfl
    refine ⟨f, by rw [e1, ← hA], fun x h1 h2 => ?_, fun j hj => ?_⟩
    · by_cases e : x = i
      · rw [e3 _ (by omega), e]
        show upd (pa_pastMen A) (64 * k + i) (po_men Q i) (64 * k + i) = _
        exact upd_s _ _ _
      · exact e2 x (by omega) h2
    · rw [e3 j (by omega)]
      show upd (pa_pastMen A) (64 * k + i) (po_men Q i) j = _
      exact upd_o _ _ (by omega)
theorem r_enter (fu : Nat) (hfu : 64 < fu) (Q : PoT) (A : PaT) (K : KeT) (z : Pz) (zs : List Pz) (hk : zs.length < 9) (hA : pa_plies A = nI zs.length) (hQ : RQ Q z) (hP : PA A zs) : ∃ A' K', f_M_enter fu Q A K = some (A', K') ∧ pa_plies A' = nI zs.length ∧ PA A' (z :: zs) ∧ KK K' [] := by
  obtain ⟨f, e1, e2, e3⟩ := r_ent2 fu Q K zs.length hk 64 fu 0 A (by omega) (by omega) hA
  unfold f_M_enter j_M_enter_34
  rw [show l_M_enter_2 fu Q K fu (0 : Int32) A = _ from e1]
  simp only [Option.bind_some]
  have h9 : am_in (nI zs.length) 9 = true := pu_in hk (by decide)
  rw [show pa_plies (f, A.2) = nI zs.length from hA, if_pos h9, if_pos h9, if_pos h9, nI_clamp (by omega)]
  refine ⟨_, _, rfl, rfl, ⟨⟨fun q hq => ?_, ?_, ?_, ?_⟩, ?_⟩, kk_nil K⟩
  · show f (64 * zs.length + q) = zm z q
    rw [e2 q (by omega) hq, hQ.1]
  · show upd (pa_pastSide (f, A.2)) zs.length (po_side Q) zs.length = _
    rw [upd_s]; exact hQ.2.1
  · show upd (pa_pastRights (f, A.2)) zs.length (po_rights Q) zs.length = _
    rw [upd_s]; exact hQ.2.2.1
  · show upd (pa_pastPassed (f, A.2)) zs.length (po_passed Q) zs.length = _
    rw [upd_s]; exact hQ.2.2.2
  · refine pa_cg zs (fun j hj => e3 j (by omega)) (fun j hj => ⟨?_, ?_, ?_⟩) hP
    · show upd (pa_pastSide (f, A.2)) zs.length (po_side Q) j = _
      exact upd_o _ _ (by omega)
    · show upd (pa_pastRights (f, A.2)) zs.length (po_rights Q) j = _
      exact upd_o _ _ (by omega)
    · show upd (pa_pastPassed (f, A.2)) zs.length (po_passed Q) j = _
      exact upd_o _ _ (by omega)
theorem r_go2 (fu : Nat) (A : PaT) (k : Nat) (hk : k < 9) : ∀ (r m i : Nat) (Q : PoT), i + r = 64 → r < m → ∃ f, l_M_goTo_2 fu A (nI k) m (nI i) Q = some (f, Q.2) ∧ (∀ q, i ≤ q → q < 64 → f q = pa_pastMen A (64 * k + q)) ∧ ∀ j, (j < i ∨ 64 ≤ j) → f j = po_men Q j := by
  intro r
  induction r with
  | zero =>
    intro m i Q hi hm
    obtain ⟨m, rfl⟩ : ∃ x, m = x + 1 := ⟨m - 1, by omega⟩
    refine ⟨po_men Q, ?_, fun x h1 h2 => by omega, fun _ _ => rfl⟩
    show b_M_goTo_2 fu A (nI k) _ (nI i) Q = _
    unfold b_M_goTo_2
    rw [if_pos (show (64 : Int32) ≤ nI i from nI_le (a := 64) (by omega) (by omega))]
  | succ r ih =>
    intro m i Q hi hm
    obtain ⟨m, rfl⟩ : ∃ x, m = x + 1 := ⟨m - 1, by omega⟩
    show ∃ f, b_M_goTo_2 fu A (nI k) (l_M_goTo_2 fu A (nI k) m) (nI i) Q = _ ∧ _
    unfold b_M_goTo_2
    have e64 : (64 : Int32) * nI k = nI (64 * k) := (Int32.ofNat_mul 64 k).symm
    rw [if_neg (show ¬ (64 : Int32) ≤ nI i from nI_ge (b := 64) (by omega) (by decide)), e64, nI_add, if_pos (pu_in (show 64 * k + i < 576 by omega) (by decide)), if_pos (pu_in (show i < 64 by omega) (by decide)), nI_clamp (show i < _ by omega), nI_clamp (show 64 * k + i < _ by omega), nI_1]
    obtain ⟨f, e1, e2, e3⟩ := ih m (i + 1) (upd (po_men Q) i (pa_pastMen A (64 * k + i)), Q.2) (by omega) (by omega)
    refine ⟨f, e1, fun x h1 h2 => ?_, fun j hj => ?_⟩
    · by_cases e : x = i
      · rw [e3 _ (by omega), e]
        show upd (po_men Q) i _ i = _
        exact upd_s _ _ _
      · exact e2 x (by omega) h2
    · rw [e3 j (by omega)]
      show upd (po_men Q) i _ j = _
      exact upd_o _ _ (by omega)
theorem r_goTo (fu : Nat) (hfu : 64 < fu) (Q : PoT) (A : PaT) (z : Pz) (zs : List Pz) (hk : zs.length < 9) (hG : Gw z) (ho : oq (po_men Q)) (hP : PA A (z :: zs)) : ∃ Q', f_M_goTo fu (nI zs.length) Q A = some Q' ∧ RQ Q' z := by
  obtain ⟨⟨p1, p2, p3, p4⟩, -⟩ := hP
  obtain ⟨f, e1, e2, e3⟩ := r_go2 fu A zs.length hk 64 fu 0 Q (by omega) (by omega)
  unfold f_M_goTo j_M_goTo_31
  rw [show l_M_goTo_2 fu A (nI zs.length) fu (0 : Int32) Q = _ from e1]
  simp only [Option.bind_some]
  have h9 : am_in (nI zs.length) 9 = true := pu_in hk (by decide)
  rw [if_pos h9, if_pos h9, if_pos h9, nI_clamp (by omega)]
  refine ⟨_, rfl, ?_, p2, p3, p4⟩
  show f = zm z
  funext x
  by_cases hx : x < 64
  · rw [e2 x (by omega) hx, p1 x hx]
  · rw [e3 x (by omega), ho x (by omega), hG.2.2.2.2.2.2 x (by omega)]
/-! the class takes a draft over -/
theorem c_cp2 (fu : Nat) (o : BdT) : ∀ (r m i : Nat) (B : BdT), i + r = 64 → r < m → ∃ f, l_Board_copy_2 fu o m (nI i) B = some (f, B.2) ∧ (∀ x, i ≤ x → x < 64 → f x = bd_men o x) ∧ ∀ x, (x < i ∨ 64 ≤ x) → f x = bd_men B x := by
  intro r
  induction r with
  | zero =>
    intro m i B hi hm
    obtain ⟨m, rfl⟩ : ∃ x, m = x + 1 := ⟨m - 1, by omega⟩
    refine ⟨bd_men B, ?_, fun x h1 h2 => by omega, fun _ _ => rfl⟩
    show b_Board_copy_2 fu o _ (nI i) B = _
    unfold b_Board_copy_2
    rw [if_pos (show (64 : Int32) ≤ nI i from nI_le (a := 64) (by omega) (by omega))]
  | succ r ih =>
    intro m i B hi hm
    obtain ⟨m, rfl⟩ : ∃ x, m = x + 1 := ⟨m - 1, by omega⟩
    show ∃ f, b_Board_copy_2 fu o (l_Board_copy_2 fu o m) (nI i) B = _ ∧ _
    unfold b_Board_copy_2
    have h64 : am_in (nI i) 64 = true := pu_in (by omega) (by decide)
    rw [if_neg (show ¬ (64 : Int32) ≤ nI i from nI_ge (b := 64) (by omega) (by decide)), if_pos h64, if_pos h64, nI_clamp (by omega), nI_1]
    obtain ⟨f, e1, e2, e3⟩ := ih m (i + 1) (upd (bd_men B) i (bd_men o i), B.2) (by omega) (by omega)
    refine ⟨f, e1, fun x h1 h2 => ?_, fun x hx => ?_⟩
    · by_cases e : x = i
      · rw [e3 x (by omega), e]
        show upd (bd_men B) i (bd_men o i) i = _
        exact upd_s _ _ _
      · exact e2 x (by omega) h2
    · rw [e3 x (by omega)]
      show upd (bd_men B) i (bd_men o i) x = _
      exact upd_o _ _ (by omega)
theorem c_copy (fu : Nat) (hfu : 64 < fu) (B D : BdT) (z : Pz) (hG : Gw z) (hB : oq (bd_men B)) (hD : RD D z) : ∃ B', f_Board_copy fu B D = some B' ∧ CB B' z [] := by
  obtain ⟨d1, d2, d3, d4, d5, d6⟩ := hD
  obtain ⟨f, e1, e2, e3⟩ := c_cp2 fu D 64 fu 0 B (by omega) (by omega)
  obtain ⟨g, rfl⟩ : ∃ g, fu = g + 3 := ⟨fu - 3, by omega⟩
  unfold f_Board_copy j_Board_copy_26
  rw [show l_Board_copy_2 (g + 3) D (g + 3) (0 : Int32) B = _ from e1]
  simp only [Option.bind_some]
  have h0 : am_in (0 : Int32) 2 = true := by decide
  have h1 : am_in (1 : Int32) 2 = true := by decide
  have l28 : l_Board_copy_28 (g + 3) D (g + 3) (0 : Int32) (f, B.2) = some (f, vp_updL (vp_updL (bd_held B) 0 (bd_held D 0)) 1 (bd_held D 1), upd (upd (bd_kings B) 0 (bd_kings D 0)) 1 (bd_kings D 1), B.2.2.2) := by
    show b_Board_copy_28 (g + 3) D (l_Board_copy_28 (g + 3) D (g + 2)) (0 : Int32) (f, B.2) = _
    unfold b_Board_copy_28
    rw [if_neg (by decide), if_pos h0, if_pos h0, if_pos h0, if_pos h0]
    show b_Board_copy_28 (g + 3) D (l_Board_copy_28 (g + 3) D (g + 1)) (0 + 1 : Int32) _ = _
    rw [show (0 + 1 : Int32) = 1 from by decide]
    unfold b_Board_copy_28
    rw [if_neg (by decide), if_pos h1, if_pos h1, if_pos h1, if_pos h1]
    show b_Board_copy_28 (g + 3) D (l_Board_copy_28 (g + 3) D g) (1 + 1 : Int32) _ = _
    rw [show (1 + 1 : Int32) = 2 from by decide]
    unfold b_Board_copy_28
    rw [if_pos (by decide)]
    rfl
  rw [l28]
  simp only [Option.bind_some]
  unfold j_Board_copy_63
  have hf : f = zm z := by
    funext x
    by_cases hx : x < 64
    · rw [e2 x (by omega) hx, d1 x hx]
    · rw [e3 x (by omega), hB x (by omega), hG.2.2.2.2.2.2 x (by omega)]
  refine ⟨_, rfl, ⟨hf, fun d hd i hi => ?_, d3, d4, d5, fun d hd => ?_⟩, rfl, trivial⟩
  · show bt (vp_updL (vp_updL (bd_held B) 0 (bd_held D 0)) 1 (bd_held D 1) d) i = own f d i
    have : vp_updL (vp_updL (bd_held B) 0 (bd_held D 0)) 1 (bd_held D 1) d = bd_held D d := by
      unfold vp_updL
      rcases (show d = 0 ∨ d = 1 by omega) with rfl | rfl
      · rw [if_neg (by decide), if_pos rfl]
      · rw [if_pos rfl]
    rw [this, d2 d hd i hi]
    unfold own
    rw [d1 i hi, hf]
  · obtain ⟨k, k1, k2⟩ := d6 d hd
    refine ⟨k, k1, ?_⟩
    show upd (upd (bd_kings B) 0 (bd_kings D 0)) 1 (bd_kings D 1) d = nI k
    rcases (show d = 0 ∨ d = 1 by omega) with rfl | rfl
    · rw [upd_o _ _ (by decide), upd_s]; exact k2
    · rw [upd_s]; exact k2
theorem c_changed (fu : Nat) (hfu : 704 < fu) (B : BdT) (L F : RwT) (P : HeT) (z : Pz) (l : StT) (hG : Gz z) (hC : CB B z l) (hl : l.length ≤ 8) : ∃ B' L' F' P', f_Mp_positionChanged fu B L F P = some (B', L', F', P') ∧ CB B' z l ∧ RW L' (lgl z) ∧ RW F' [] ∧ HP P' z := by
  obtain ⟨L', B', e1, e2, e3⟩ := cb_fillLegal fu hfu B z l hC (by omega) hG (okN_holds z hG) L
  unfold f_Mp_positionChanged f_HelpLines_forget
  rw [e1]
  simp only [Option.bind_some]
  exact ⟨_, _, _, _, rfl, e3, e2, rw_nil F, Or.inl rfl⟩
theorem op_load (fu : Nat) (hfu : 704 < fu) (E : ThT) (G : RtT) (Q : PoT) (N : NuT) (A : PaT) (K : KeT) (T : TxT) (D : BdT) (r : RdT) (B : BdT) (L F : RwT) (P : HeT) (h : LI G Q A K T B L F P) : ∃ k T' D' r' B' L' F' P' G' Q' N' A' K', f_Mp_load fu T D r B L F P = some (k, T', D', r', B', L', F', P') ∧ f_M_load fu E G Q N A K = some (k, 0, G', Q', N', A', K') ∧ LI G' Q' A' K' T' B' L' F' P' := by
  obtain ⟨tx, z, l, ks, hT, hPI, hF, hks, hK⟩ := h
  have hPI' := hPI
  obtain ⟨hG, hC, hl, hW, hQ, hpl, hPA, hL, hH⟩ := hPI'
  have ho : oq (po_men Q) := fun i hi => by rw [hQ.1]; exact hG.1.2.2.2.2.2.2 i hi
  obtain ⟨k, D', r', Q', N', k6, e1, e2, e3, e4⟩ := read_sim fu (by omega) hT D r Q N ho
  unfold f_Mp_load f_M_load
  rw [e1, e2]
  simp only [Option.bind_some]
  by_cases hk : k = 0
  · obtain ⟨z', g1, g2, g3⟩ := e4 hk
    rw [if_neg (fun q => q (by rw [hk]; decide)), if_pos (by rw [hk]; decide)]
    obtain ⟨B2, c1, c2⟩ := c_copy fu (by omega) B D' z' g1.1 (fun i hi => by rw [hC.1.1]; exact hG.1.2.2.2.2.2.2 i hi) g3
    rw [c1]
    simp only [Option.bind_some]
    have hsh : f_Text_shorten (0 : Int32) T = some (1, (tx_chars T, 0)) := by
      unfold f_Text_shorten
      rw [if_neg (by decide), hT.2.1, if_pos (show (0 : Int32) ≤ nI tx.length from nI_le (a := 0) (by omega) (by have := hT.1; omega))]
    rw [hsh]
    simp only [Option.bind_some]
    obtain ⟨B3, L3, F3, P3, d1, d2, d3, d4, d5⟩ := c_changed fu hfu B2 L F P z' [] g1 c2 (by simp)
    rw [d1]
    simp only [Option.bind_some]
    obtain ⟨A', K', f1, f2, f3, f4⟩ := r_enter fu (by omega) Q' (pa_pastMen A, pa_pastSide A, pa_pastRights A, pa_pastPassed A, 0) K z' [] (by simp) rfl g2 trivial
    rw [f1]
    simp only [Option.bind_some]
    refine ⟨nI k, _, _, _, _, _, _, _, _, _, _, _, _, rfl, by rw [hk]; rfl, [], z', [], [], ⟨by simp, rfl, rfl, fun i c hc => by simp at hc⟩, ⟨g1, d2, by simp, trivial, g2, f2, f3, d3, d5⟩, d4, by simp, f4⟩
  · rw [if_pos (nI_ne0 (by omega) (by omega)), if_neg (nI_nle (by omega) (by omega)), hpl]
    obtain ⟨Q2, f1, f2⟩ := r_goTo fu (by omega) Q' A z (posl l) (by unfold posl; simp; omega) hG.1 e3 hPA
    rw [show nI l.length = nI (posl l).length from by unfold posl; simp, f1]
    simp only [Option.bind_some]
    exact ⟨nI k, _, _, _, _, _, _, _, _, _, _, _, _, rfl, rfl, tx, z, l, ks, hT, ⟨hG, hC, hl, hW, f2, hpl, hPA, hL, hH⟩, hF, hks, hK⟩
