/-! THE LAW: the calls one after another -/
abbrev LwT : Type := ThT × RtT × PoT × NuT × PaT × UnT × LiT × KeT × HlT × OuT × CtT × TxT × BdT × RdT × BdT × MvT × RwT × RwT × (Nat → RwT) × SoT × HeT
def lw_q (x : LwT) : CtT := x.2.2.2.2.2.2.2.2.2.2.1
def okr (s : Option (Int32 × LwT)) : Prop := ∃ x : LwT, s = some (1, x) ∧ (lw_q x).1 ≤ 601024 ∧ (lw_q x).2 ≤ 7293034
theorem lc_same (x : Int64) : lg_cmp x x = 0 := by
  unfold lg_cmp
  rw [if_neg (show ¬ x > x from Int64.lt_irrefl), if_pos rfl]
theorem th_fin {kk rr e : Int32} {O' : OuT} {q q' : CtT} (h : TH kk O' q q' rr e) (X Y Z : Option (Int32 × LwT)) : (if e = kk then if ¬ kk = (0 : Int32) then X else if am_in (0 : Int32) 1 = true then if lg_cmp (O' ((0 : Int32)).toNatClampNeg) rr.toInt64 = (0 : Int32) then X else Y else none else Z) = X := by
  rw [if_pos h.1]
  by_cases c : kk = 0
  · rw [if_neg (fun w => w c), if_pos (by decide), if_pos (by rw [show O' ((0 : Int32)).toNatClampNeg = O' 0 from rfl, h.2.1 c]; exact lc_same _)]
  · rw [if_pos c]
theorem th_q {kk rr e : Int32} {O' : OuT} {q q' : CtT} (h : TH kk O' q q' rr e) {c : Nat} (h1 : q.1 + (c + 1) ≤ 601024) (h2 : q.2 + 6 * (c + 1) ≤ 7293034) : q'.1 + c ≤ 601024 ∧ q'.2 + 6 * c ≤ 7293034 := by
  rcases h.2.2 with e | e
  · rw [e]; exact ⟨by omega, by omega⟩
  · rw [e]
    show q.1 + 1 + c ≤ _ ∧ q.2 + 6 + 6 * c ≤ _
    exact ⟨by omega, by omega⟩
theorem law_loop (fu : Nat) (hfu : 704 < fu) (sn : Nat) (hsn : sn ≤ 2560) (sx : Nat → Int32) : ∀ (c m i : Nat) (E : ThT) (G : RtT) (Q : PoT) (N : NuT) (A : PaT) (U : UnT) (Y : LiT) (K : KeT) (H : HlT) (O : OuT) (q : CtT) (T : TxT) (D : BdT) (r : RdT) (B : BdT) (V : MvT) (L : RwT) (F : RwT) (R : (Nat → RwT)) (S : SoT) (P : HeT), sn ≤ i + 5 * c → c < m → i ≤ sn → LI G Q A K T B L F P → q.1 + c ≤ 601024 → q.2 + 6 * c ≤ 7293034 → okr (l_L_law_23 fu sn sx m (nI i) E G Q N A U Y K H O q T D r B V L F R S P) := by
  have hend : ∀ i, sn < i + 5 → i ≤ sn → (Int32.ofNat sn) - (5 : Int32) < nI i := by
    intro i h1 h2
    by_cases c : 5 ≤ sn
    · rw [show (Int32.ofNat sn) - (5 : Int32) = nI (sn - 5) from nI_sub (b := 5) c]
      exact nI_lt (by omega) (by omega)
    · have e : ∀ s : Fin 5, ∀ j : Fin 5, (Int32.ofNat s) - (5 : Int32) < nI j := by decide
      exact e ⟨sn, by omega⟩ ⟨i, by omega⟩
  intro c
  induction c with
  | zero =>
    intro m i E G Q N A U Y K H O q T D r B V L F R S P hi hm hs h hq1 hq2
    obtain ⟨m, rfl⟩ : ∃ x, m = x + 1 := ⟨m - 1, by omega⟩
    show okr (b_L_law_23 fu sn sx _ (nI i) E G Q N A U Y K H O q T D r B V L F R S P)
    unfold b_L_law_23
    rw [if_pos (hend i (by omega) hs)]
    exact ⟨_, rfl, hq1, hq2⟩
  | succ c ih =>
    intro m i E G Q N A U Y K H O q T D r B V L F R S P hi hm hs h hq1 hq2
    obtain ⟨m, rfl⟩ : ∃ x, m = x + 1 := ⟨m - 1, by omega⟩
    show okr (b_L_law_23 fu sn sx (l_L_law_23 fu sn sx m) (nI i) E G Q N A U Y K H O q T D r B V L F R S P)
    by_cases hlast : sn < i + 5
    · unfold b_L_law_23
      rw [if_pos (hend i hlast hs)]
      exact ⟨_, rfl, by show q.1 ≤ _; omega, by show q.2 ≤ _; omega⟩
    have hnend : ¬ (Int32.ofNat sn) - (5 : Int32) < nI i := by
      rw [show (Int32.ofNat sn) - (5 : Int32) = nI (sn - 5) from nI_sub (b := 5) (by omega)]
      exact nI_nlt (by omega) (by omega)
    have i0 : am_in (nI i) sn = true := pu_in (by omega) (by omega)
    have i1 : am_in (nI i + (1 : Int32)) sn = true := by rw [show nI i + (1 : Int32) = nI (i + 1) from nI_add i 1]; exact pu_in (by omega) (by omega)
    have i2 : am_in (nI i + (2 : Int32)) sn = true := by rw [show nI i + (2 : Int32) = nI (i + 2) from nI_add i 2]; exact pu_in (by omega) (by omega)
    have i3 : am_in (nI i + (3 : Int32)) sn = true := by rw [show nI i + (3 : Int32) = nI (i + 3) from nI_add i 3]; exact pu_in (by omega) (by omega)
    have i4 : am_in (nI i + (4 : Int32)) sn = true := by rw [show nI i + (4 : Int32) = nI (i + 4) from nI_add i 4]; exact pu_in (by omega) (by omega)
    have nxt : ∀ (E : ThT) (G : RtT) (Q : PoT) (N : NuT) (A : PaT) (U : UnT) (Y : LiT) (K : KeT) (H : HlT) (O : OuT) (q : CtT) (T : TxT) (D : BdT) (r : RdT) (B : BdT) (V : MvT) (L : RwT) (F : RwT) (R : (Nat → RwT)) (S : SoT) (P : HeT), LI G Q A K T B L F P → q.1 + c ≤ 601024 → q.2 + 6 * c ≤ 7293034 → okr (l_L_law_23 fu sn sx m (nI i + (5 : Int32)) E G Q N A U Y K H O q T D r B V L F R S P) := by
      intro E G Q N A U Y K H O q T D r B V L F R S P a1 a2 a3
      rw [show nI i + (5 : Int32) = nI (i + 5) from nI_add i 5]
      exact ih m (i + 5) E G Q N A U Y K H O q T D r B V L F R S P (by omega) (by omega) (by omega) a1 a2 a3
    clear ih
    unfold b_L_law_23
    rw [if_neg hnend, if_pos i0]
    by_cases o0 : (sx (nI i).toNatClampNeg) &&& (15 : Int32) = (0 : Int32)
    · rw [if_pos o0]
      obtain ⟨tx, z, l, ks, hT, hPI, hF, hks, hK⟩ := h
      obtain ⟨b, T', G', tx', e1, e2, e3⟩ := tx_type fu (by omega) ((am_shl (sx (nI i + (1 : Int32)).toNatClampNeg).toInt64 (32 : Int32)) ||| ((sx (nI i + (2 : Int32)).toNatClampNeg).toInt64 &&& (4294967295 : Int64))) (sx (nI i + (3 : Int32)).toNatClampNeg) E T G tx hT
      rw [if_pos i1, if_pos i2, if_pos i3, e1]
      simp only [Option.bind_some]
      rw [if_pos i1, if_pos i2, if_pos i3, e2]
      simp only [Option.bind_some]
      rw [if_pos trivial]
      exact nxt 0 G' Q N A U Y K H O q T' D r B V L F R S P ⟨tx', z, l, ks, e3, hPI, hF, hks, hK⟩ (by omega) (by omega)
    rw [if_neg o0]
    by_cases o1 : (sx (nI i).toNatClampNeg) &&& (15 : Int32) = (1 : Int32)
    · rw [if_pos o1]
      obtain ⟨tx, z, l, ks, hT, hPI, hF, hks, hK⟩ := h
      obtain ⟨b, T', G', tx', e1, e2, e3⟩ := tx_cut (sx (nI i + (1 : Int32)).toNatClampNeg) E T G tx hT
      rw [if_pos i1, e1]
      simp only [Option.bind_some]
      rw [if_pos i1, e2]
      simp only [Option.bind_some]
      rw [if_pos trivial]
      exact nxt 0 G' Q N A U Y K H O q T' D r B V L F R S P ⟨tx', z, l, ks, e3, hPI, hF, hks, hK⟩ (by omega) (by omega)
    rw [if_neg o1]
    by_cases o2 : (sx (nI i).toNatClampNeg) &&& (15 : Int32) = (2 : Int32)
    · rw [if_pos o2]
      obtain ⟨k, T', D', r', B', L', F', P', G', Q', N', A', K', e1, e2, e3⟩ := op_load fu hfu E G Q N A K T D r B L F P h
      rw [e1]
      simp only [Option.bind_some]
      rw [e2]
      simp only [Option.bind_some]
      rw [if_pos trivial]
      exact nxt 0 G' Q' N' A' U Y K' H O q T' D' r' B' V L' F' R S P' e3 (by omega) (by omega)
    rw [if_neg o2]
    by_cases o3 : (sx (nI i).toNatClampNeg) &&& (15 : Int32) = (3 : Int32)
    · rw [if_pos o3]
      obtain ⟨k, Q', U', Y', e1, e2, e3⟩ := op_moves fu hfu E G Q A U Y K T B L F P h
      rw [e1]
      simp only [Option.bind_some]
      rw [e2]
      simp only [Option.bind_some]
      rw [if_pos trivial]
      exact nxt 0 G Q' N A U' Y' K H O q T D r B V L F R S P e3 (by omega) (by omega)
    rw [if_neg o3]
    by_cases o4 : (sx (nI i).toNatClampNeg) &&& (15 : Int32) = (4 : Int32)
    · rw [if_pos o4]
      obtain ⟨kk, O', q', rr, e, Q', U', Y', e1, e2, e3, e4⟩ := op_move fu hfu (sx (nI i + (1 : Int32)).toNatClampNeg) O q E G Q A U Y K T B L F P h
      rw [if_pos i1, e1]
      simp only [Option.bind_some]
      rw [if_pos i1, e2]
      simp only [Option.bind_some]
      rw [show f_M_thrown e = some e from rfl]
      simp only [Option.bind_some]
      rw [th_fin e3]
      obtain ⟨t1, t2⟩ := th_q e3 hq1 hq2
      exact nxt e G Q' N A U' Y' K H O' q' T D r B V L F R S P e4 t1 t2
    rw [if_neg o4]
    by_cases o5 : (sx (nI i).toNatClampNeg) &&& (15 : Int32) = (5 : Int32)
    · rw [if_pos o5]
      obtain ⟨kk, O', q', B', L', F', P', rr, e, Q', A', U', Y', K', e1, e2, e3, e4⟩ := op_play fu hfu (sx (nI i + (1 : Int32)).toNatClampNeg) O q E G Q A U Y K T B L F P h
      rw [if_pos i1, e1]
      simp only [Option.bind_some]
      rw [if_pos i1, e2]
      simp only [Option.bind_some]
      rw [show f_M_thrown e = some e from rfl]
      simp only [Option.bind_some]
      rw [th_fin e3]
      obtain ⟨t1, t2⟩ := th_q e3 hq1 hq2
      exact nxt e G Q' N A' U' Y' K' H O' q' T D r B' V L' F' R S P' e4 t1 t2
    rw [if_neg o5]
    by_cases o6 : (sx (nI i).toNatClampNeg) &&& (15 : Int32) = (6 : Int32)
    · rw [if_pos o6]
      obtain ⟨kk, O', q', B', L', F', P', rr, e, Q', A', K', e1, e2, e3, e4⟩ := op_back fu hfu O q E G Q A K T B L F P h
      rw [e1]
      simp only [Option.bind_some]
      rw [e2]
      simp only [Option.bind_some]
      rw [show f_M_thrown e = some e from rfl]
      simp only [Option.bind_some]
      rw [th_fin e3]
      obtain ⟨t1, t2⟩ := th_q e3 hq1 hq2
      exact nxt e G Q' N A' U Y K' H O' q' T D r B' V L' F' R S P' e4 t1 t2
    rw [if_neg o6]
    by_cases o7 : (sx (nI i).toNatClampNeg) &&& (15 : Int32) = (7 : Int32)
    · rw [if_pos o7]
      obtain ⟨k, Q', U', Y', e1, e2, e3⟩ := op_beaten fu hfu E G Q A U Y K T B L F P h
      rw [e1]
      simp only [Option.bind_some]
      rw [e2]
      simp only [Option.bind_some]
      rw [if_pos trivial]
      exact nxt 0 G Q' N A U' Y' K H O q T D r B V L F R S P e3 (by omega) (by omega)
    rw [if_neg o7]
    by_cases o8 : (sx (nI i).toNatClampNeg) &&& (15 : Int32) = (8 : Int32)
    · rw [if_pos o8]
      obtain ⟨kk, O', q', B', V', F', R', S', rr, e, Q', U', Y', K', e1, e2, e3, e4⟩ := op_keys fu hfu (sx (nI i + (1 : Int32)).toNatClampNeg) (sx (nI i + (2 : Int32)).toNatClampNeg) (sx (nI i + (3 : Int32)).toNatClampNeg) O q E G Q A U Y K T B V L F R S P h
      rw [if_pos i1, if_pos i2, if_pos i3, e1]
      simp only [Option.bind_some]
      rw [if_pos i1, if_pos i2, if_pos i3, e2]
      simp only [Option.bind_some]
      rw [show f_M_thrown e = some e from rfl]
      simp only [Option.bind_some]
      rw [th_fin e3]
      obtain ⟨t1, t2⟩ := th_q e3 hq1 hq2
      exact nxt e G Q' N A U' Y' K' H O' q' T D r B' V' L F' R' S' P e4 t1 t2
    rw [if_neg o8]
    by_cases o9 : (sx (nI i).toNatClampNeg) &&& (15 : Int32) = (9 : Int32)
    · rw [if_pos o9]
      obtain ⟨kk, O', q', rr, e, e1, e2, e3⟩ := op_key (sx (nI i + (1 : Int32)).toNatClampNeg) O q E G Q A K T B L F P h
      rw [if_pos i1, e1]
      simp only [Option.bind_some]
      rw [if_pos i1, e2]
      simp only [Option.bind_some]
      rw [show f_M_thrown e = some e from rfl]
      simp only [Option.bind_some]
      rw [th_fin e3]
      obtain ⟨t1, t2⟩ := th_q e3 hq1 hq2
      exact nxt e G Q N A U Y K H O' q' T D r B V L F R S P h t1 t2
    rw [if_neg o9]
    by_cases o10 : (sx (nI i).toNatClampNeg) &&& (15 : Int32) = (10 : Int32)
    · rw [if_pos o10]
      obtain ⟨kk, O', q', B', V', R', S', rr, e, Q', U', Y', e1, e2, e3, e4⟩ := op_least fu hfu (sx (nI i + (1 : Int32)).toNatClampNeg) (sx (nI i + (2 : Int32)).toNatClampNeg) (sx (nI i + (3 : Int32)).toNatClampNeg) O q E G Q A U Y K T B V L F R S P h
      rw [if_pos i1, if_pos i2, if_pos i3, e1]
      simp only [Option.bind_some]
      rw [if_pos i1, if_pos i2, if_pos i3, e2]
      simp only [Option.bind_some]
      rw [show f_M_thrown e = some e from rfl]
      simp only [Option.bind_some]
      rw [th_fin e3]
      obtain ⟨t1, t2⟩ := th_q e3 hq1 hq2
      exact nxt e G Q' N A U' Y' K H O' q' T D r B' V' L F R' S' P e4 t1 t2
    rw [if_neg o10]
    by_cases o11 : (sx (nI i).toNatClampNeg) &&& (15 : Int32) = (11 : Int32)
    · rw [if_pos o11]
      obtain ⟨kk, O', q', B', V', R', S', rr, e, Q', U', Y', e1, e2, e3, e4⟩ := op_refuted fu hfu (sx (nI i + (1 : Int32)).toNatClampNeg) (sx (nI i + (2 : Int32)).toNatClampNeg) (sx (nI i + (3 : Int32)).toNatClampNeg) (sx (nI i + (4 : Int32)).toNatClampNeg) O q E G Q A U Y K T B V L F R S P h
      rw [if_pos i1, if_pos i2, if_pos i3, if_pos i4, e1]
      simp only [Option.bind_some]
      rw [if_pos i1, if_pos i2, if_pos i3, if_pos i4, e2]
      simp only [Option.bind_some]
      rw [show f_M_thrown e = some e from rfl]
      simp only [Option.bind_some]
      rw [th_fin e3]
      obtain ⟨t1, t2⟩ := th_q e3 hq1 hq2
      exact nxt e G Q' N A U' Y' K H O' q' T D r B' V' L F R' S' P e4 t1 t2
    rw [if_neg o11]
    by_cases o12 : (sx (nI i).toNatClampNeg) &&& (15 : Int32) = (12 : Int32)
    · rw [if_pos o12]
      obtain ⟨kk, O', q', B', V', R', P', rr, e, Q', U', Y', H', e1, e2, e3, e4⟩ := op_lines fu hfu (sx (nI i + (1 : Int32)).toNatClampNeg) (sx (nI i + (2 : Int32)).toNatClampNeg) O q E G Q A U Y K H T B V L F R P h
      rw [if_pos i1, if_pos i2, e1]
      simp only [Option.bind_some]
      rw [if_pos i1, if_pos i2, e2]
      simp only [Option.bind_some]
      rw [show f_M_thrown e = some e from rfl]
      simp only [Option.bind_some]
      rw [th_fin e3]
      obtain ⟨t1, t2⟩ := th_q e3 hq1 hq2
      exact nxt e G Q' N A U' Y' K H' O' q' T D r B' V' L F R' S P' e4 t1 t2
    rw [if_neg o12]
    by_cases o13 : (sx (nI i).toNatClampNeg) &&& (15 : Int32) = (13 : Int32)
    · rw [if_pos o13]
      obtain ⟨kk, O', q', B', V', R', P', rr, e, Q', U', Y', H', e1, e2, e3, e4⟩ := op_line fu hfu (sx (nI i + (1 : Int32)).toNatClampNeg) (sx (nI i + (2 : Int32)).toNatClampNeg) (sx (nI i + (3 : Int32)).toNatClampNeg) (sx (nI i + (4 : Int32)).toNatClampNeg) O q E G Q A U Y K H T B V L F R P h
      rw [if_pos i1, if_pos i2, if_pos i3, if_pos i4, e1]
      simp only [Option.bind_some]
      rw [if_pos i1, if_pos i2, if_pos i3, if_pos i4, e2]
      simp only [Option.bind_some]
      rw [show f_M_thrown e = some e from rfl]
      simp only [Option.bind_some]
      rw [th_fin e3]
      obtain ⟨t1, t2⟩ := th_q e3 hq1 hq2
      exact nxt e G Q' N A U' Y' K H' O' q' T D r B' V' L F R' S P' e4 t1 t2
    rw [if_neg o13]
    exact nxt E G Q N A U Y K H O q T D r B V L F R S P h (by omega) (by omega)
