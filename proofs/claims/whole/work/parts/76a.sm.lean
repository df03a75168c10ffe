def y_Text_byteOf (sn : Nat) (sx : Nat → Int32) (M : List am_C) (q : Nat × Nat) (c0 : am_C) (tl : List am_C) (T : TxT) (D : BdT) (r : RdT) (B : BdT) (oo : am_O) : Int32 → Prop
  | ov => oo = (.inl (some (.int ov)), (zl sn sx, xa c0 T D r B tl, M, q))
theorem se_Text_byteOf {sn : Nat} {sx : Nat → Int32} {M : List am_C} {q : Nat × Nat} {c0 : am_C} {tl : List am_C} {T : TxT} {D : BdT} {r : RdT} {B : BdT} {l0 : Int64} {x2 : Int32} {oo : am_O} {e : Int32} (hx : y_Text_byteOf sn sx M q c0 tl T D r B oo e) (hM : f_Text_byteOf l0 x2 = some e) : am_ev 1 k_Text_byteOf (0, [.long l0, am_ju, .int x2], [], (zl sn sx, xa c0 T D r B tl, M, q)) oo := by
  unfold f_Text_byteOf at hM
  cases hM
  cases hx
  exact am_ev.kf 9 (fun _ _ => rfl)
theorem s_Text_byteOf {sn : Nat} {sx : Nat → Int32} {M : List am_C} {q : Nat × Nat} {c0 : am_C} {tl : List am_C} {T : TxT} {D : BdT} {r : RdT} {B : BdT} {l0 : Int64} {x2 : Int32} {ov : Int32} (hM : f_Text_byteOf l0 x2 = some ov) : am_cv 2 k_Text_byteOf [.long l0, .int x2] (zl sn sx, xa c0 T D r B tl, M, q) (.inl (some (.int ov)), (zl sn sx, xa c0 T D r B tl, M, q)) := am_cv.of rfl (se_Text_byteOf (e := ov) (show y_Text_byteOf sn sx M q c0 tl T D r B _ ov from rfl) hM)
def y_Text_append (sn : Nat) (sx : Nat → Int32) (M : List am_C) (q : Nat × Nat) (c0 : am_C) (tl : List am_C) (D : BdT) (r : RdT) (B : BdT) (oo : am_O) : Int32 × TxT → Prop
  | (ov, oT) => oo = (.inl (some (.int ov)), (zl sn sx, xa c0 oT D r B tl, M, q))
def x_Text_append_27 (sn : Nat) (sx : Nat → Int32) (M : List am_C) (q : Nat × Nat) (c0 : am_C) (tl : List am_C) (T : TxT) (D : BdT) (r : RdT) (B : BdT) (l1 : Int64) (x3 : Int32) (oo : am_O) : ((Unit)) ⊕ (Int32 × TxT) → Prop
  | (.inl ()) => am_ev 2 k_Text_append (63, [.ref 102, .long l1, am_ju, .int x3, am_ju, am_ju], [], (zl sn sx, xa c0 T D r B tl, M, q)) oo
  | .inr (ov, oT) => oo = (.inl (some (.int ov)), (zl sn sx, xa c0 oT D r B tl, M, q))
def x_Text_append_66 (sn : Nat) (sx : Nat → Int32) (M : List am_C) (q : Nat × Nat) (c0 : am_C) (tl : List am_C) (D : BdT) (r : RdT) (B : BdT) (l1 : Int64) (x3 : Int32) (oo : am_O) : (TxT) → Prop
  | T => am_ev 2 k_Text_append (97, [.ref 102, am_ju, am_ju, .int x3, am_ju, am_ju], [], (zl sn sx, xa c0 T D r B tl, M, q)) oo
theorem sb_Text_append_27 {fu : Nat} {sn : Nat} {sx : Nat → Int32} {M : List am_C} {q : Nat × Nat} {c0 : am_C} {tl : List am_C} {T : TxT} {D : BdT} {r : RdT} {B : BdT} {l1 : Int64} {x3 : Int32} {oo : am_O} {e : ((Unit)) ⊕ (Int32 × TxT)} {gg : Int32 → Option (((Unit)) ⊕ (Int32 × TxT))} (hx : x_Text_append_27 sn sx M q c0 tl T D r B l1 x3 oo e) (hg : ∀ (x4 : Int32), gg x4 = some e → am_ev 2 k_Text_append (27, [.ref 102, .long l1, am_ju, .int x3, .int x4, am_ju], [], (zl sn sx, xa c0 T D r B tl, M, q)) oo) {x4 : Int32} (hM : b_Text_append_27 fu T l1 x3 gg x4 = some e) : am_ev 2 k_Text_append (27, [.ref 102, .long l1, am_ju, .int x3, .int x4, am_ju], [], (zl sn sx, xa c0 T D r B tl, M, q)) oo := by
  unfold b_Text_append_27 at hM
  rcases am_if hM with ⟨c1, hM⟩ | ⟨c1, hM⟩
  · refine am_ev.kt 3 63 33 [.ref 102, .long l1, am_ju, .int x3, .int x4, am_ju] [] (zl sn sx, xa c0 T D r B tl, M, q) c1 (fun _ _ => rfl) ?_
    refine am_ev.wk (lv' := [.ref 102, .long l1, am_ju, .int x3, am_ju, am_ju]) (am_lc (Or.inr rfl) (am_lc (Or.inr rfl) (am_lc (Or.inr rfl) (am_lc (Or.inr rfl) (am_lc (Or.inl rfl) (am_lc (Or.inr rfl) am_ln)))))) ?_
    cases hM
    exact hx
  · refine am_ev.ke 3 63 33 [.ref 102, .long l1, am_ju, .int x3, .int x4, am_ju] [] (zl sn sx, xa c0 T D r B tl, M, q) c1 (fun _ _ => rfl) ?_
    obtain ⟨rr, hc, hM⟩ := am_bind hM
    obtain ⟨r1, rfl⟩ : ∃ z, z = rr := ⟨_, rfl⟩
    refine am_ev.kg 2 (pc' := 36) (lv' := [.ref 102, .long l1, am_ju, .int x3, .int x4, am_ju]) (st' := [.int x4, .long l1]) (h' := (zl sn sx, xa c0 T D r B tl, M, q)) (fun _ _ => rfl) ?_
    refine am_ev.call rfl rfl rfl ((s_Text_byteOf hc).mono (by decide)) ?_
    show am_ev _ k_Text_append (39, [.ref 102, .long l1, am_ju, .int x3, .int x4, am_ju], [.int r1], (zl sn sx, xa c0 T D r B tl, M, q)) oo
    rcases am_if hM with ⟨c2, hM⟩ | ⟨c2, hM⟩
    · refine am_ev.kt 4 55 48 [.ref 102, .long l1, am_ju, .int x3, .int x4, .int r1] [] (zl sn sx, xa c0 T D r B tl, M, q) c2 (fun _ _ => rfl) ?_
      cases hM
      cases hx
      exact am_ev.kf 2 (fun _ _ => rfl)
    · refine am_ev.ke 4 55 48 [.ref 102, .long l1, am_ju, .int x3, .int x4, .int r1] [] (zl sn sx, xa c0 T D r B tl, M, q) c2 (fun _ _ => rfl) ?_
      rcases am_if hM with ⟨c3, hM⟩ | ⟨c3, hM⟩
      · refine am_ev.kt 3 57 55 [.ref 102, .long l1, am_ju, .int x3, .int x4, .int r1] [] (zl sn sx, xa c0 T D r B tl, M, q) c3 (fun _ _ => rfl) ?_
        refine am_ev.kg 2 (pc' := 27) (lv' := [.ref 102, .long l1, am_ju, .int x3, .int (x4 + (1 : Int32)), .int r1]) (st' := []) (h' := (zl sn sx, xa c0 T D r B tl, M, q)) (fun _ _ => rfl) ?_
        refine am_ev.wk (lv' := [.ref 102, .long l1, am_ju, .int x3, .int (x4 + (1 : Int32)), am_ju]) (am_lc (Or.inr rfl) (am_lc (Or.inr rfl) (am_lc (Or.inr rfl) (am_lc (Or.inr rfl) (am_lc (Or.inr rfl) (am_lc (Or.inl rfl) am_ln)))))) ?_
        exact hg _ hM
      · refine am_ev.ke 3 57 55 [.ref 102, .long l1, am_ju, .int x3, .int x4, .int r1] [] (zl sn sx, xa c0 T D r B tl, M, q) c3 (fun _ _ => rfl) ?_
        cases hM
        cases hx
        exact am_ev.kf 2 (fun _ _ => rfl)
theorem sl_Text_append_27 {fu : Nat} {sn : Nat} {sx : Nat → Int32} {M : List am_C} {q : Nat × Nat} {c0 : am_C} {tl : List am_C} {T : TxT} {D : BdT} {r : RdT} {B : BdT} {l1 : Int64} {x3 : Int32} {oo : am_O} {e : ((Unit)) ⊕ (Int32 × TxT)} (hx : x_Text_append_27 sn sx M q c0 tl T D r B l1 x3 oo e) : ∀ (n : Nat) (x4 : Int32), l_Text_append_27 fu T l1 x3 n x4 = some e → am_ev 2 k_Text_append (27, [.ref 102, .long l1, am_ju, .int x3, .int x4, am_ju], [], (zl sn sx, xa c0 T D r B tl, M, q)) oo
  | 0, _, hM => by have h : (none : Option (((Unit)) ⊕ (Int32 × TxT))) = some e := hM; cases h
  | n + 1, _, hM => sb_Text_append_27 hx (fun _ hM => sl_Text_append_27 hx n _ hM) hM
theorem sb_Text_append_66 {fu : Nat} {sn : Nat} {sx : Nat → Int32} {M : List am_C} {q : Nat × Nat} {c0 : am_C} {tl : List am_C} {D : BdT} {r : RdT} {B : BdT} {l1 : Int64} {x3 : Int32} {oo : am_O} {e : (TxT)} {gg : Int32 → TxT → Option ((TxT))} (hx : x_Text_append_66 sn sx M q c0 tl D r B l1 x3 oo e) (hg : ∀ (x4 : Int32) (T : TxT), gg x4 T = some e → am_ev 2 k_Text_append (66, [.ref 102, .long l1, am_ju, .int x3, .int x4, am_ju], [], (zl sn sx, xa c0 T D r B tl, M, q)) oo) {x4 : Int32} {T : TxT} (hM : b_Text_append_66 fu l1 x3 gg x4 T = some e) : am_ev 2 k_Text_append (66, [.ref 102, .long l1, am_ju, .int x3, .int x4, am_ju], [], (zl sn sx, xa c0 T D r B tl, M, q)) oo := by
  unfold b_Text_append_66 at hM
  rcases am_if hM with ⟨c4, hM⟩ | ⟨c4, hM⟩
  · refine am_ev.kt 3 97 72 [.ref 102, .long l1, am_ju, .int x3, .int x4, am_ju] [] (zl sn sx, xa c0 T D r B tl, M, q) c4 (fun _ _ => rfl) ?_
    refine am_ev.wk (lv' := [.ref 102, am_ju, am_ju, .int x3, am_ju, am_ju]) (am_lc (Or.inr rfl) (am_lc (Or.inl rfl) (am_lc (Or.inr rfl) (am_lc (Or.inr rfl) (am_lc (Or.inl rfl) (am_lc (Or.inr rfl) am_ln)))))) ?_
    cases hM
    exact hx
  · refine am_ev.ke 3 97 72 [.ref 102, .long l1, am_ju, .int x3, .int x4, am_ju] [] (zl sn sx, xa c0 T D r B tl, M, q) c4 (fun _ _ => rfl) ?_
    obtain ⟨rr, hc, hM⟩ := am_bind hM
    obtain ⟨r2, rfl⟩ : ∃ z, z = rr := ⟨_, rfl⟩
    refine am_ev.kg 8 (pc' := 86) (lv' := [.ref 102, .long l1, am_ju, .int x3, .int x4, am_ju]) (st' := [.int x4, .long l1, .int ((tx_length T) + x4), .ref 103]) (h' := (zl sn sx, xa c0 T D r B tl, M, q)) (fun _ _ => rfl) ?_
    refine am_ev.call rfl rfl rfl ((s_Text_byteOf hc).mono (by decide)) ?_
    show am_ev _ k_Text_append (89, [.ref 102, .long l1, am_ju, .int x3, .int x4, am_ju], [.int r2, .int ((tx_length T) + x4), .ref 103], (zl sn sx, xa c0 T D r B tl, M, q)) oo
    obtain ⟨c5, hM⟩ := am_ifn hM
    refine am_ev.kc 2 91 [.ref 102, .long l1, am_ju, .int x3, .int x4, am_ju] [] (zl sn sx, xa c0 ((upd (tx_chars T) (((tx_length T) + x4)).toNatClampNeg (vp_nar .char (am_i2c r2))), (tx_length T)) D r B tl, M, q) c5 (fun _ _ => rfl) ?_
    refine am_ev.kg 2 (pc' := 66) (lv' := [.ref 102, .long l1, am_ju, .int x3, .int (x4 + (1 : Int32)), am_ju]) (st' := []) (h' := (zl sn sx, xa c0 ((upd (tx_chars T) (((tx_length T) + x4)).toNatClampNeg (vp_nar .char (am_i2c r2))), (tx_length T)) D r B tl, M, q)) (fun _ _ => rfl) ?_
    exact hg _ _ hM
theorem sl_Text_append_66 {fu : Nat} {sn : Nat} {sx : Nat → Int32} {M : List am_C} {q : Nat × Nat} {c0 : am_C} {tl : List am_C} {D : BdT} {r : RdT} {B : BdT} {l1 : Int64} {x3 : Int32} {oo : am_O} {e : (TxT)} (hx : x_Text_append_66 sn sx M q c0 tl D r B l1 x3 oo e) : ∀ (n : Nat) (x4 : Int32) (T : TxT), l_Text_append_66 fu l1 x3 n x4 T = some e → am_ev 2 k_Text_append (66, [.ref 102, .long l1, am_ju, .int x3, .int x4, am_ju], [], (zl sn sx, xa c0 T D r B tl, M, q)) oo
  | 0, _, _, hM => by have h : (none : Option ((TxT))) = some e := hM; cases h
  | n + 1, _, _, hM => sb_Text_append_66 hx (fun _ _ hM => sl_Text_append_66 hx n _ _ hM) hM
theorem sj_Text_append_97 {fu : Nat} {sn : Nat} {sx : Nat → Int32} {M : List am_C} {q : Nat × Nat} {c0 : am_C} {tl : List am_C} {T : TxT} {D : BdT} {r : RdT} {B : BdT} {x3 : Int32} {oo : am_O} {e : Int32 × TxT} (hx : y_Text_append sn sx M q c0 tl D r B oo e) (hM : j_Text_append_97 fu T x3 = some e) : am_ev 2 k_Text_append (97, [.ref 102, am_ju, am_ju, .int x3, am_ju, am_ju], [], (zl sn sx, xa c0 T D r B tl, M, q)) oo := by
  unfold j_Text_append_97 at hM
  cases hM
  cases hx
  exact am_ev.kf 8 (fun _ _ => rfl)
theorem sj_Text_append_63 {fu : Nat} {sn : Nat} {sx : Nat → Int32} {M : List am_C} {q : Nat × Nat} {c0 : am_C} {tl : List am_C} {T : TxT} {D : BdT} {r : RdT} {B : BdT} {l1 : Int64} {x3 : Int32} {oo : am_O} {e : Int32 × TxT} (hx : y_Text_append sn sx M q c0 tl D r B oo e) (hM : j_Text_append_63 fu T l1 x3 = some e) : am_ev 2 k_Text_append (63, [.ref 102, .long l1, am_ju, .int x3, am_ju, am_ju], [], (zl sn sx, xa c0 T D r B tl, M, q)) oo := by
  unfold j_Text_append_63 at hM
  refine am_ev.kg 2 (pc' := 66) (lv' := [.ref 102, .long l1, am_ju, .int x3, .int (0 : Int32), am_ju]) (st' := []) (h' := (zl sn sx, xa c0 T D r B tl, M, q)) (fun _ _ => rfl) ?_
  obtain ⟨z, hz, hM⟩ := am_bind hM
  obtain ⟨tz_1, rfl⟩ : ∃ y, y = z := ⟨_, rfl⟩
  refine sl_Text_append_66 ?_ _ _ _ hz
  show am_ev 2 k_Text_append (97, [.ref 102, am_ju, am_ju, .int x3, am_ju, am_ju], [], (zl sn sx, xa c0 tz_1 D r B tl, M, q)) oo
  exact sj_Text_append_97 hx hM
theorem se_Text_append {fu : Nat} {sn : Nat} {sx : Nat → Int32} {M : List am_C} {q : Nat × Nat} {c0 : am_C} {tl : List am_C} {T : TxT} {D : BdT} {r : RdT} {B : BdT} {l1 : Int64} {x3 : Int32} {oo : am_O} {e : Int32 × TxT} (hx : y_Text_append sn sx M q c0 tl D r B oo e) (hM : f_Text_append fu l1 x3 T = some e) : am_ev 2 k_Text_append (0, [.ref 102, .long l1, am_ju, .int x3, am_ju, am_ju], [], (zl sn sx, xa c0 T D r B tl, M, q)) oo := by
  unfold f_Text_append at hM
  rcases am_if hM with ⟨c6, hM⟩ | ⟨c6, hM⟩
  · refine am_ev.kt 3 22 5 [.ref 102, .long l1, am_ju, .int x3, am_ju, am_ju] [] (zl sn sx, xa c0 T D r B tl, M, q) c6 (fun _ _ => rfl) ?_
    cases hM
    cases hx
    exact am_ev.kf 2 (fun _ _ => rfl)
  · refine am_ev.ke 3 22 5 [.ref 102, .long l1, am_ju, .int x3, am_ju, am_ju] [] (zl sn sx, xa c0 T D r B tl, M, q) c6 (fun _ _ => rfl) ?_
    rcases am_if hM with ⟨c7, hM⟩ | ⟨c7, hM⟩
    · refine am_ev.kt 3 22 11 [.ref 102, .long l1, am_ju, .int x3, am_ju, am_ju] [] (zl sn sx, xa c0 T D r B tl, M, q) c7 (fun _ _ => rfl) ?_
      cases hM
      cases hx
      exact am_ev.kf 2 (fun _ _ => rfl)
    · refine am_ev.ke 3 22 11 [.ref 102, .long l1, am_ju, .int x3, am_ju, am_ju] [] (zl sn sx, xa c0 T D r B tl, M, q) c7 (fun _ _ => rfl) ?_
      rcases am_if hM with ⟨c8, hM⟩ | ⟨c8, hM⟩
      · refine am_ev.kt 6 24 22 [.ref 102, .long l1, am_ju, .int x3, am_ju, am_ju] [] (zl sn sx, xa c0 T D r B tl, M, q) c8 (fun _ _ => rfl) ?_
        refine am_ev.kg 2 (pc' := 27) (lv' := [.ref 102, .long l1, am_ju, .int x3, .int (0 : Int32), am_ju]) (st' := []) (h' := (zl sn sx, xa c0 T D r B tl, M, q)) (fun _ _ => rfl) ?_
        obtain ⟨z, hz, hM⟩ := am_bind hM
        rcases z with z | z
        ·
          refine sl_Text_append_27 ?_ _ _ hz
          show am_ev 2 k_Text_append (63, [.ref 102, .long l1, am_ju, .int x3, am_ju, am_ju], [], (zl sn sx, xa c0 T D r B tl, M, q)) oo
          exact sj_Text_append_63 hx hM
        ·
          obtain ⟨ov, oT⟩ := z
          cases hM
          refine sl_Text_append_27 ?_ _ _ hz
          exact hx
      · refine am_ev.ke 6 24 22 [.ref 102, .long l1, am_ju, .int x3, am_ju, am_ju] [] (zl sn sx, xa c0 T D r B tl, M, q) c8 (fun _ _ => rfl) ?_
        cases hM
        cases hx
        exact am_ev.kf 2 (fun _ _ => rfl)
theorem s_Text_append {fu : Nat} {sn : Nat} {sx : Nat → Int32} {M : List am_C} {q : Nat × Nat} {c0 : am_C} {tl : List am_C} {T : TxT} {D : BdT} {r : RdT} {B : BdT} {l1 : Int64} {x3 : Int32} {ov : Int32} {oT : TxT} (hM : f_Text_append fu l1 x3 T = some (ov, oT)) : am_cv 3 k_Text_append [.ref 102, .long l1, .int x3] (zl sn sx, xa c0 T D r B tl, M, q) (.inl (some (.int ov)), (zl sn sx, xa c0 oT D r B tl, M, q)) := am_cv.of rfl (se_Text_append (e := (ov, oT)) (show y_Text_append sn sx M q c0 tl D r B _ (ov, oT) from rfl) hM)
def y_Mp_type (sn : Nat) (sx : Nat → Int32) (M : List am_C) (q : Nat × Nat) (D : BdT) (r : RdT) (B : BdT) (V : MvT) (L : RwT) (F : RwT) (R : Nat → RwT) (S : SoT) (P : HeT) (oo : am_O) : Int32 × TxT → Prop
  | (ov, oT) => oo = (.inl (some (.int ov)), (zl sn sx, xa xm oT D r B (xb V L F R S P), M, q))
theorem se_Mp_type {fu : Nat} {sn : Nat} {sx : Nat → Int32} {M : List am_C} {q : Nat × Nat} {T : TxT} {D : BdT} {r : RdT} {B : BdT} {V : MvT} {L : RwT} {F : RwT} {R : Nat → RwT} {S : SoT} {P : HeT} {l1 : Int64} {x3 : Int32} {oo : am_O} {e : Int32 × TxT} (hx : y_Mp_type sn sx M q D r B V L F R S P oo e) (hM : f_Mp_type fu l1 x3 T = some e) : am_ev 3 k_Mp_type (0, [.ref 100, .long l1, am_ju, .int x3], [], (zl sn sx, xa xm T D r B (xb V L F R S P), M, q)) oo := by
  unfold f_Mp_type at hM
  obtain ⟨rr, hc, hM⟩ := am_bind hM
  obtain ⟨r1, tg2⟩ := rr
  refine am_ev.kg 4 (pc' := 6) (lv' := [.ref 100, .long l1, am_ju, .int x3]) (st' := [.int x3, .long l1, .ref 102]) (h' := (zl sn sx, xa xm T D r B (xb V L F R S P), M, q)) (fun _ _ => rfl) ?_
  refine am_ev.call rfl rfl rfl ((s_Text_append hc).mono (by decide)) ?_
  show am_ev _ k_Mp_type (9, [.ref 100, .long l1, am_ju, .int x3], [.int r1], (zl sn sx, xa xm tg2 D r B (xb V L F R S P), M, q)) oo
  cases hM
  cases hx
  exact am_ev.kf 1 (fun _ _ => rfl)
theorem s_Mp_type {fu : Nat} {sn : Nat} {sx : Nat → Int32} {M : List am_C} {q : Nat × Nat} {T : TxT} {D : BdT} {r : RdT} {B : BdT} {V : MvT} {L : RwT} {F : RwT} {R : Nat → RwT} {S : SoT} {P : HeT} {l1 : Int64} {x3 : Int32} {ov : Int32} {oT : TxT} (hM : f_Mp_type fu l1 x3 T = some (ov, oT)) : am_cv 4 k_Mp_type [.ref 100, .long l1, .int x3] (zl sn sx, xa xm T D r B (xb V L F R S P), M, q) (.inl (some (.int ov)), (zl sn sx, xa xm oT D r B (xb V L F R S P), M, q)) := am_cv.of rfl (se_Mp_type (e := (ov, oT)) (show y_Mp_type sn sx M q D r B V L F R S P _ (ov, oT) from rfl) hM)
def y_Text_shorten (sn : Nat) (sx : Nat → Int32) (M : List am_C) (q : Nat × Nat) (c0 : am_C) (tl : List am_C) (D : BdT) (r : RdT) (B : BdT) (oo : am_O) : Int32 × TxT → Prop
  | (ov, oT) => oo = (.inl (some (.int ov)), (zl sn sx, xa c0 oT D r B tl, M, q))
theorem se_Text_shorten {sn : Nat} {sx : Nat → Int32} {M : List am_C} {q : Nat × Nat} {c0 : am_C} {tl : List am_C} {T : TxT} {D : BdT} {r : RdT} {B : BdT} {x1 : Int32} {oo : am_O} {e : Int32 × TxT} (hx : y_Text_shorten sn sx M q c0 tl D r B oo e) (hM : f_Text_shorten x1 T = some e) : am_ev 1 k_Text_shorten (0, [.ref 102, .int x1], [], (zl sn sx, xa c0 T D r B tl, M, q)) oo := by
  unfold f_Text_shorten at hM
  rcases am_if hM with ⟨c1, hM⟩ | ⟨c1, hM⟩
  · refine am_ev.kt 2 12 4 [.ref 102, .int x1] [] (zl sn sx, xa c0 T D r B tl, M, q) c1 (fun _ _ => rfl) ?_
    cases hM
    cases hx
    exact am_ev.kf 2 (fun _ _ => rfl)
  · refine am_ev.ke 2 12 4 [.ref 102, .int x1] [] (zl sn sx, xa c0 T D r B tl, M, q) c1 (fun _ _ => rfl) ?_
    rcases am_if hM with ⟨c2, hM⟩ | ⟨c2, hM⟩
    · refine am_ev.kt 4 14 12 [.ref 102, .int x1] [] (zl sn sx, xa c0 T D r B tl, M, q) c2 (fun _ _ => rfl) ?_
      cases hM
      cases hx
      exact am_ev.kf 5 (fun _ _ => rfl)
    · refine am_ev.ke 4 14 12 [.ref 102, .int x1] [] (zl sn sx, xa c0 T D r B tl, M, q) c2 (fun _ _ => rfl) ?_
      cases hM
      cases hx
      exact am_ev.kf 2 (fun _ _ => rfl)
theorem s_Text_shorten {sn : Nat} {sx : Nat → Int32} {M : List am_C} {q : Nat × Nat} {c0 : am_C} {tl : List am_C} {T : TxT} {D : BdT} {r : RdT} {B : BdT} {x1 : Int32} {ov : Int32} {oT : TxT} (hM : f_Text_shorten x1 T = some (ov, oT)) : am_cv 2 k_Text_shorten [.ref 102, .int x1] (zl sn sx, xa c0 T D r B tl, M, q) (.inl (some (.int ov)), (zl sn sx, xa c0 oT D r B tl, M, q)) := am_cv.of rfl (se_Text_shorten (e := (ov, oT)) (show y_Text_shorten sn sx M q c0 tl D r B _ (ov, oT) from rfl) hM)
def y_Mp_cut (sn : Nat) (sx : Nat → Int32) (M : List am_C) (q : Nat × Nat) (D : BdT) (r : RdT) (B : BdT) (V : MvT) (L : RwT) (F : RwT) (R : Nat → RwT) (S : SoT) (P : HeT) (oo : am_O) : Int32 × TxT → Prop
  | (ov, oT) => oo = (.inl (some (.int ov)), (zl sn sx, xa xm oT D r B (xb V L F R S P), M, q))
theorem se_Mp_cut {sn : Nat} {sx : Nat → Int32} {M : List am_C} {q : Nat × Nat} {T : TxT} {D : BdT} {r : RdT} {B : BdT} {V : MvT} {L : RwT} {F : RwT} {R : Nat → RwT} {S : SoT} {P : HeT} {x1 : Int32} {oo : am_O} {e : Int32 × TxT} (hx : y_Mp_cut sn sx M q D r B V L F R S P oo e) (hM : f_Mp_cut x1 T = some e) : am_ev 2 k_Mp_cut (0, [.ref 100, .int x1], [], (zl sn sx, xa xm T D r B (xb V L F R S P), M, q)) oo := by
  unfold f_Mp_cut at hM
  obtain ⟨rr, hc, hM⟩ := am_bind hM
  obtain ⟨r1, tg2⟩ := rr
  refine am_ev.kg 3 (pc' := 5) (lv' := [.ref 100, .int x1]) (st' := [.int x1, .ref 102]) (h' := (zl sn sx, xa xm T D r B (xb V L F R S P), M, q)) (fun _ _ => rfl) ?_
  refine am_ev.call rfl rfl rfl ((s_Text_shorten hc).mono (by decide)) ?_
  show am_ev _ k_Mp_cut (8, [.ref 100, .int x1], [.int r1], (zl sn sx, xa xm tg2 D r B (xb V L F R S P), M, q)) oo
  cases hM
  cases hx
  exact am_ev.kf 1 (fun _ _ => rfl)
theorem s_Mp_cut {sn : Nat} {sx : Nat → Int32} {M : List am_C} {q : Nat × Nat} {T : TxT} {D : BdT} {r : RdT} {B : BdT} {V : MvT} {L : RwT} {F : RwT} {R : Nat → RwT} {S : SoT} {P : HeT} {x1 : Int32} {ov : Int32} {oT : TxT} (hM : f_Mp_cut x1 T = some (ov, oT)) : am_cv 3 k_Mp_cut [.ref 100, .int x1] (zl sn sx, xa xm T D r B (xb V L F R S P), M, q) (.inl (some (.int ov)), (zl sn sx, xa xm oT D r B (xb V L F R S P), M, q)) := am_cv.of rfl (se_Mp_cut (e := (ov, oT)) (show y_Mp_cut sn sx M q D r B V L F R S P _ (ov, oT) from rfl) hM)
def y_Board_clear_D (sn : Nat) (sx : Nat → Int32) (M : List am_C) (q : Nat × Nat) (c0 : am_C) (tl : List am_C) (T : TxT) (r : RdT) (B : BdT) (oo : am_O) : BdT → Prop
  | ob => oo = (.inl none, (zl sn sx, xa c0 T ob r B tl, M, q))
def x_Board_clear_D_2 (sn : Nat) (sx : Nat → Int32) (M : List am_C) (q : Nat × Nat) (c0 : am_C) (tl : List am_C) (T : TxT) (r : RdT) (B : BdT) (oo : am_O) : (BdT) → Prop
  | b => am_ev 1 k_Board_clear (21, [.ref 104, am_ju], [], (zl sn sx, xa c0 T b r B tl, M, q)) oo
theorem sb_Board_clear_D_2 {fu : Nat} {sn : Nat} {sx : Nat → Int32} {M : List am_C} {q : Nat × Nat} {c0 : am_C} {tl : List am_C} {T : TxT} {r : RdT} {B : BdT} {oo : am_O} {e : (BdT)} {gg : Int32 → BdT → Option ((BdT))} (hx : x_Board_clear_D_2 sn sx M q c0 tl T r B oo e) (hg : ∀ (x1 : Int32) (b : BdT), gg x1 b = some e → am_ev 1 k_Board_clear (2, [.ref 104, .int x1], [], (zl sn sx, xa c0 T b r B tl, M, q)) oo) {x1 : Int32} {b : BdT} (hM : b_Board_clear_2 fu gg x1 b = some e) : am_ev 1 k_Board_clear (2, [.ref 104, .int x1], [], (zl sn sx, xa c0 T b r B tl, M, q)) oo := by
  unfold b_Board_clear_2 at hM
  rcases am_if hM with ⟨c1, hM⟩ | ⟨c1, hM⟩
  · refine am_ev.kt 3 21 8 [.ref 104, .int x1] [] (zl sn sx, xa c0 T b r B tl, M, q) c1 (fun _ _ => rfl) ?_
    refine am_ev.wk (lv' := [.ref 104, am_ju]) (am_lc (Or.inr rfl) (am_lc (Or.inl rfl) am_ln)) ?_
    cases hM
    exact hx
  · refine am_ev.ke 3 21 8 [.ref 104, .int x1] [] (zl sn sx, xa c0 T b r B tl, M, q) c1 (fun _ _ => rfl) ?_
    obtain ⟨c2, hM⟩ := am_ifn hM
    refine am_ev.kc 5 15 [.ref 104, .int x1] [] (zl sn sx, xa c0 T ((upd (bd_men b) (x1).toNatClampNeg (0 : Int32)), (bd_held b), (bd_kings b), (bd_side b), (bd_rights b), (bd_passed b), (bd_depth b), (bd_made b), (bd_taken b), (bd_takenAt b), (bd_rightsBefore b), (bd_passedBefore b)) r B tl, M, q) c2 (fun _ _ => rfl) ?_
    refine am_ev.kg 2 (pc' := 2) (lv' := [.ref 104, .int (x1 + (1 : Int32))]) (st' := []) (h' := (zl sn sx, xa c0 T ((upd (bd_men b) (x1).toNatClampNeg (0 : Int32)), (bd_held b), (bd_kings b), (bd_side b), (bd_rights b), (bd_passed b), (bd_depth b), (bd_made b), (bd_taken b), (bd_takenAt b), (bd_rightsBefore b), (bd_passedBefore b)) r B tl, M, q)) (fun _ _ => rfl) ?_
    exact hg _ _ hM
theorem sl_Board_clear_D_2 {fu : Nat} {sn : Nat} {sx : Nat → Int32} {M : List am_C} {q : Nat × Nat} {c0 : am_C} {tl : List am_C} {T : TxT} {r : RdT} {B : BdT} {oo : am_O} {e : (BdT)} (hx : x_Board_clear_D_2 sn sx M q c0 tl T r B oo e) : ∀ (n : Nat) (x1 : Int32) (b : BdT), l_Board_clear_2 fu n x1 b = some e → am_ev 1 k_Board_clear (2, [.ref 104, .int x1], [], (zl sn sx, xa c0 T b r B tl, M, q)) oo
  | 0, _, _, hM => by have h : (none : Option ((BdT))) = some e := hM; cases h
  | n + 1, _, _, hM => sb_Board_clear_D_2 hx (fun _ _ hM => sl_Board_clear_D_2 hx n _ _ hM) hM
theorem sj_Board_clear_D_21 {fu : Nat} {sn : Nat} {sx : Nat → Int32} {M : List am_C} {q : Nat × Nat} {c0 : am_C} {tl : List am_C} {T : TxT} {r : RdT} {B : BdT} {b : BdT} {oo : am_O} {e : BdT} (hx : y_Board_clear_D sn sx M q c0 tl T r B oo e) (hM : j_Board_clear_21 fu b = some e) : am_ev 1 k_Board_clear (21, [.ref 104, am_ju], [], (zl sn sx, xa c0 T b r B tl, M, q)) oo := by
  unfold j_Board_clear_21 at hM
  obtain ⟨c3, hM⟩ := am_ifn hM
  refine am_ev.kc 5 28 [.ref 104, am_ju] [] (zl sn sx, xa c0 T ((bd_men b), (vp_updL (bd_held b) ((0 : Int32)).toNatClampNeg (0 : Int64)), (bd_kings b), (bd_side b), (bd_rights b), (bd_passed b), (bd_depth b), (bd_made b), (bd_taken b), (bd_takenAt b), (bd_rightsBefore b), (bd_passedBefore b)) r B tl, M, q) c3 (fun _ _ => rfl) ?_
  obtain ⟨c4, hM⟩ := am_ifn hM
  refine am_ev.kc 5 35 [.ref 104, am_ju] [] (zl sn sx, xa c0 T ((bd_men b), (vp_updL (vp_updL (bd_held b) ((0 : Int32)).toNatClampNeg (0 : Int64)) ((1 : Int32)).toNatClampNeg (0 : Int64)), (bd_kings b), (bd_side b), (bd_rights b), (bd_passed b), (bd_depth b), (bd_made b), (bd_taken b), (bd_takenAt b), (bd_rightsBefore b), (bd_passedBefore b)) r B tl, M, q) c4 (fun _ _ => rfl) ?_
  cases hM
  cases hx
  exact am_ev.kf 13 (fun _ _ => rfl)
theorem se_Board_clear_D {fu : Nat} {sn : Nat} {sx : Nat → Int32} {M : List am_C} {q : Nat × Nat} {c0 : am_C} {tl : List am_C} {T : TxT} {r : RdT} {B : BdT} {b : BdT} {oo : am_O} {e : BdT} (hx : y_Board_clear_D sn sx M q c0 tl T r B oo e) (hM : f_Board_clear fu b = some e) : am_ev 1 k_Board_clear (0, [.ref 104, am_ju], [], (zl sn sx, xa c0 T b r B tl, M, q)) oo := by
  unfold f_Board_clear at hM
  refine am_ev.kg 2 (pc' := 2) (lv' := [.ref 104, .int (0 : Int32)]) (st' := []) (h' := (zl sn sx, xa c0 T b r B tl, M, q)) (fun _ _ => rfl) ?_
  obtain ⟨z, hz, hM⟩ := am_bind hM
  obtain ⟨bz_1, rfl⟩ : ∃ y, y = z := ⟨_, rfl⟩
  refine sl_Board_clear_D_2 ?_ _ _ _ hz
  show am_ev 1 k_Board_clear (21, [.ref 104, am_ju], [], (zl sn sx, xa c0 T bz_1 r B tl, M, q)) oo
  exact sj_Board_clear_D_21 hx hM
theorem s_Board_clear_D {fu : Nat} {sn : Nat} {sx : Nat → Int32} {M : List am_C} {q : Nat × Nat} {c0 : am_C} {tl : List am_C} {T : TxT} {r : RdT} {B : BdT} {b : BdT} {ob : BdT} (hM : f_Board_clear fu b = some ob) : am_cv 2 k_Board_clear [.ref 104] (zl sn sx, xa c0 T b r B tl, M, q) (.inl none, (zl sn sx, xa c0 T ob r B tl, M, q)) := am_cv.of rfl (se_Board_clear_D (e := ob) (show y_Board_clear_D sn sx M q c0 tl T r B _ ob from rfl) hM)
def y_Reader_manOf (sn : Nat) (sx : Nat → Int32) (M : List am_C) (q : Nat × Nat) (c0 : am_C) (tl : List am_C) (T : TxT) (D : BdT) (r : RdT) (B : BdT) (oo : am_O) : Int32 → Prop
  | ov => oo = (.inl (some (.int ov)), (zl sn sx, xa c0 T D r B tl, M, q))
def x_Reader_manOf_2 (sn : Nat) (sx : Nat → Int32) (M : List am_C) (q : Nat × Nat) (c0 : am_C) (tl : List am_C) (T : TxT) (D : BdT) (r : RdT) (B : BdT) (x0 : Int32) (oo : am_O) : Int32 → Prop
  | ov => oo = (.inl (some (.int ov)), (zl sn sx, xa c0 T D r B tl, M, q))
theorem sj_Reader_manOf_29 {fu : Nat} {sn : Nat} {sx : Nat → Int32} {M : List am_C} {q : Nat × Nat} {c0 : am_C} {tl : List am_C} {T : TxT} {D : BdT} {r : RdT} {B : BdT} {x0 : Int32} {x1 : Int32} {oo : am_O} {e : Int32} {gg : Int32 → Option (Int32)} (hx : x_Reader_manOf_2 sn sx M q c0 tl T D r B x0 oo e) (hg : ∀ (x1 : Int32), gg x1 = some e → am_ev 1 k_Reader_manOf (2, [.int x0, .int x1], [], (zl sn sx, xa c0 T D r B tl, M, q)) oo) (hM : j_Reader_manOf_29 fu gg x0 x1 = some e) : am_ev 1 k_Reader_manOf (29, [.int x0, .int x1], [], (zl sn sx, xa c0 T D r B tl, M, q)) oo := by
  unfold j_Reader_manOf_29 at hM
  refine am_ev.kg 2 (pc' := 2) (lv' := [.int x0, .int (x1 + (1 : Int32))]) (st' := []) (h' := (zl sn sx, xa c0 T D r B tl, M, q)) (fun _ _ => rfl) ?_
  exact hg _ hM
theorem sb_Reader_manOf_2 {fu : Nat} {sn : Nat} {sx : Nat → Int32} {M : List am_C} {q : Nat × Nat} {c0 : am_C} {tl : List am_C} {T : TxT} {D : BdT} {r : RdT} {B : BdT} {x0 : Int32} {oo : am_O} {e : Int32} {gg : Int32 → Option (Int32)} (hx : x_Reader_manOf_2 sn sx M q c0 tl T D r B x0 oo e) (hg : ∀ (x1 : Int32), gg x1 = some e → am_ev 1 k_Reader_manOf (2, [.int x0, .int x1], [], (zl sn sx, xa c0 T D r B tl, M, q)) oo) {x1 : Int32} (hM : b_Reader_manOf_2 fu x0 gg x1 = some e) : am_ev 1 k_Reader_manOf (2, [.int x0, .int x1], [], (zl sn sx, xa c0 T D r B tl, M, q)) oo := by
  unfold b_Reader_manOf_2 at hM
  rcases am_if hM with ⟨c1, hM⟩ | ⟨c1, hM⟩
  · refine am_ev.kt 4 35 11 [.int x0, .int x1] [] (zl sn sx, xa c0 T D r B tl, M, q) c1 (fun _ _ => rfl) ?_
    cases hM
    cases hx
    exact am_ev.kf 2 (fun _ _ => rfl)
  · refine am_ev.ke 4 35 11 [.int x0, .int x1] [] (zl sn sx, xa c0 T D r B tl, M, q) c1 (fun _ _ => rfl) ?_
    rcases am_if hM with ⟨c2, hM⟩ | ⟨c2, hM⟩
    · refine am_ev.kt 3 29 17 [.int x0, .int x1] [] (zl sn sx, xa c0 T D r B tl, M, q) c2 (fun _ _ => rfl) ?_
      exact sj_Reader_manOf_29 hx hg hM
    · refine am_ev.ke 3 29 17 [.int x0, .int x1] [] (zl sn sx, xa c0 T D r B tl, M, q) c2 (fun _ _ => rfl) ?_
      obtain ⟨c3, hM⟩ := am_ifn hM
      refine am_ev.kc 3 23 [.int x0, .int x1] [.int (tb_LETTERS (x1).toNatClampNeg)] (zl sn sx, xa c0 T D r B tl, M, q) c3 (fun _ _ => rfl) ?_
      rcases am_if hM with ⟨c4, hM⟩ | ⟨c4, hM⟩
      · refine am_ev.kt 2 29 27 [.int x0, .int x1] [] (zl sn sx, xa c0 T D r B tl, M, q) c4 (fun _ _ => rfl) ?_
        exact sj_Reader_manOf_29 hx hg hM
      · refine am_ev.ke 2 29 27 [.int x0, .int x1] [] (zl sn sx, xa c0 T D r B tl, M, q) c4 (fun _ _ => rfl) ?_
        cases hM
        cases hx
        exact am_ev.kf 2 (fun _ _ => rfl)
theorem sl_Reader_manOf_2 {fu : Nat} {sn : Nat} {sx : Nat → Int32} {M : List am_C} {q : Nat × Nat} {c0 : am_C} {tl : List am_C} {T : TxT} {D : BdT} {r : RdT} {B : BdT} {x0 : Int32} {oo : am_O} {e : Int32} (hx : x_Reader_manOf_2 sn sx M q c0 tl T D r B x0 oo e) : ∀ (n : Nat) (x1 : Int32), l_Reader_manOf_2 fu x0 n x1 = some e → am_ev 1 k_Reader_manOf (2, [.int x0, .int x1], [], (zl sn sx, xa c0 T D r B tl, M, q)) oo
  | 0, _, hM => by have h : (none : Option (Int32)) = some e := hM; cases h
  | n + 1, _, hM => sb_Reader_manOf_2 hx (fun _ hM => sl_Reader_manOf_2 hx n _ hM) hM
theorem se_Reader_manOf {fu : Nat} {sn : Nat} {sx : Nat → Int32} {M : List am_C} {q : Nat × Nat} {c0 : am_C} {tl : List am_C} {T : TxT} {D : BdT} {r : RdT} {B : BdT} {x0 : Int32} {oo : am_O} {e : Int32} (hx : y_Reader_manOf sn sx M q c0 tl T D r B oo e) (hM : f_Reader_manOf fu x0 = some e) : am_ev 1 k_Reader_manOf (0, [.int x0, am_ju], [], (zl sn sx, xa c0 T D r B tl, M, q)) oo := by
  unfold f_Reader_manOf at hM
  refine am_ev.kg 2 (pc' := 2) (lv' := [.int x0, .int (1 : Int32)]) (st' := []) (h' := (zl sn sx, xa c0 T D r B tl, M, q)) (fun _ _ => rfl) ?_
  refine sl_Reader_manOf_2 ?_ _ _ hM
  exact hx
theorem s_Reader_manOf {fu : Nat} {sn : Nat} {sx : Nat → Int32} {M : List am_C} {q : Nat × Nat} {c0 : am_C} {tl : List am_C} {T : TxT} {D : BdT} {r : RdT} {B : BdT} {x0 : Int32} {ov : Int32} (hM : f_Reader_manOf fu x0 = some ov) : am_cv 2 k_Reader_manOf [.int x0] (zl sn sx, xa c0 T D r B tl, M, q) (.inl (some (.int ov)), (zl sn sx, xa c0 T D r B tl, M, q)) := am_cv.of rfl (se_Reader_manOf (e := ov) (show y_Reader_manOf sn sx M q c0 tl T D r B _ ov from rfl) hM)
def y_Board_put_D (sn : Nat) (sx : Nat → Int32) (M : List am_C) (q : Nat × Nat) (c0 : am_C) (tl : List am_C) (T : TxT) (r : RdT) (B : BdT) (oo : am_O) : BdT → Prop
  | ob => oo = (.inl none, (zl sn sx, xa c0 T ob r B tl, M, q))
theorem se_Board_put_D {sn : Nat} {sx : Nat → Int32} {M : List am_C} {q : Nat × Nat} {c0 : am_C} {tl : List am_C} {T : TxT} {r : RdT} {B : BdT} {b : BdT} {x1 : Int32} {x2 : Int32} {oo : am_O} {e : BdT} (hx : y_Board_put_D sn sx M q c0 tl T r B oo e) (hM : f_Board_put x1 x2 b = some e) : am_ev 1 k_Board_put (0, [.ref 104, .int x1, .int x2], [], (zl sn sx, xa c0 T b r B tl, M, q)) oo := by
  unfold f_Board_put at hM
  obtain ⟨c1, hM⟩ := am_ifn hM
  refine am_ev.kc 5 7 [.ref 104, .int x1, .int x2] [] (zl sn sx, xa c0 T ((upd (bd_men b) (x1).toNatClampNeg x2), (bd_held b), (bd_kings b), (bd_side b), (bd_rights b), (bd_passed b), (bd_depth b), (bd_made b), (bd_taken b), (bd_takenAt b), (bd_rightsBefore b), (bd_passedBefore b)) r B tl, M, q) c1 (fun _ _ => rfl) ?_
  obtain ⟨c2, hM⟩ := am_ifn hM
  refine am_ev.kc 7 16 [.ref 104, .int x1, .int x2] [.long ((bd_held b) ((x2 >>> ((3 : Int32) &&& 31))).toNatClampNeg), .int (x2 >>> ((3 : Int32) &&& 31)), .ref 106] (zl sn sx, xa c0 T ((upd (bd_men b) (x1).toNatClampNeg x2), (bd_held b), (bd_kings b), (bd_side b), (bd_rights b), (bd_passed b), (bd_depth b), (bd_made b), (bd_taken b), (bd_takenAt b), (bd_rightsBefore b), (bd_passedBefore b)) r B tl, M, q) c2 (fun _ _ => rfl) ?_
  obtain ⟨c3, hM⟩ := am_ifn hM
  refine am_ev.kc 5 21 [.ref 104, .int x1, .int x2] [] (zl sn sx, xa c0 T ((upd (bd_men b) (x1).toNatClampNeg x2), (vp_updL (bd_held b) ((x2 >>> ((3 : Int32) &&& 31))).toNatClampNeg (((bd_held b) ((x2 >>> ((3 : Int32) &&& 31))).toNatClampNeg) ||| (am_shl (1 : Int64) x1))), (bd_kings b), (bd_side b), (bd_rights b), (bd_passed b), (bd_depth b), (bd_made b), (bd_taken b), (bd_takenAt b), (bd_rightsBefore b), (bd_passedBefore b)) r B tl, M, q) c3 (fun _ _ => rfl) ?_
  cases hM
  cases hx
  exact am_ev.kf 1 (fun _ _ => rfl)
theorem s_Board_put_D {sn : Nat} {sx : Nat → Int32} {M : List am_C} {q : Nat × Nat} {c0 : am_C} {tl : List am_C} {T : TxT} {r : RdT} {B : BdT} {b : BdT} {x1 : Int32} {x2 : Int32} {ob : BdT} (hM : f_Board_put x1 x2 b = some ob) : am_cv 2 k_Board_put [.ref 104, .int x1, .int x2] (zl sn sx, xa c0 T b r B tl, M, q) (.inl none, (zl sn sx, xa c0 T ob r B tl, M, q)) := am_cv.of rfl (se_Board_put_D (e := ob) (show y_Board_put_D sn sx M q c0 tl T r B _ ob from rfl) hM)
def y_Text_at (sn : Nat) (sx : Nat → Int32) (M : List am_C) (q : Nat × Nat) (c0 : am_C) (tl : List am_C) (T : TxT) (D : BdT) (r : RdT) (B : BdT) (oo : am_O) : Int32 → Prop
  | ov => oo = (.inl (some (.int ov)), (zl sn sx, xa c0 T D r B tl, M, q))
theorem se_Text_at {sn : Nat} {sx : Nat → Int32} {M : List am_C} {q : Nat × Nat} {c0 : am_C} {tl : List am_C} {T : TxT} {D : BdT} {r : RdT} {B : BdT} {x1 : Int32} {oo : am_O} {e : Int32} (hx : y_Text_at sn sx M q c0 tl T D r B oo e) (hM : f_Text_at x1 T = some e) : am_ev 1 k_Text_at (0, [.ref 102, .int x1], [], (zl sn sx, xa c0 T D r B tl, M, q)) oo := by
  unfold f_Text_at at hM
  rcases am_if hM with ⟨c1, hM⟩ | ⟨c1, hM⟩
  · refine am_ev.kt 2 21 4 [.ref 102, .int x1] [] (zl sn sx, xa c0 T D r B tl, M, q) c1 (fun _ _ => rfl) ?_
    cases hM
    cases hx
    exact am_ev.kf 2 (fun _ _ => rfl)
  · refine am_ev.ke 2 21 4 [.ref 102, .int x1] [] (zl sn sx, xa c0 T D r B tl, M, q) c1 (fun _ _ => rfl) ?_
    rcases am_if hM with ⟨c2, hM⟩ | ⟨c2, hM⟩
    · refine am_ev.kt 4 21 12 [.ref 102, .int x1] [] (zl sn sx, xa c0 T D r B tl, M, q) c2 (fun _ _ => rfl) ?_
      cases hM
      cases hx
      exact am_ev.kf 2 (fun _ _ => rfl)
    · refine am_ev.ke 4 21 12 [.ref 102, .int x1] [] (zl sn sx, xa c0 T D r B tl, M, q) c2 (fun _ _ => rfl) ?_
      obtain ⟨c3, hM⟩ := am_ifn hM
      refine am_ev.kc 4 18 [.ref 102, .int x1] [.int ((tx_chars T) (x1).toNatClampNeg)] (zl sn sx, xa c0 T D r B tl, M, q) c3 (fun _ _ => rfl) ?_
      cases hM
      cases hx
      exact am_ev.kf 2 (fun _ _ => rfl)
theorem s_Text_at {sn : Nat} {sx : Nat → Int32} {M : List am_C} {q : Nat × Nat} {c0 : am_C} {tl : List am_C} {T : TxT} {D : BdT} {r : RdT} {B : BdT} {x1 : Int32} {ov : Int32} (hM : f_Text_at x1 T = some ov) : am_cv 2 k_Text_at [.ref 102, .int x1] (zl sn sx, xa c0 T D r B tl, M, q) (.inl (some (.int ov)), (zl sn sx, xa c0 T D r B tl, M, q)) := am_cv.of rfl (se_Text_at (e := ov) (show y_Text_at sn sx M q c0 tl T D r B _ ov from rfl) hM)
def y_Reader_readRank (sn : Nat) (sx : Nat → Int32) (M : List am_C) (q : Nat × Nat) (c0 : am_C) (tl : List am_C) (T : TxT) (B : BdT) (oo : am_O) : Int32 × BdT × RdT → Prop
  | (ov, oD, or) => oo = (.inl (some (.int ov)), (zl sn sx, xa c0 T oD or B tl, M, q))
def x_Reader_readRank_7 (sn : Nat) (sx : Nat → Int32) (M : List am_C) (q : Nat × Nat) (c0 : am_C) (tl : List am_C) (T : TxT) (B : BdT) (x1 : Int32) (oo : am_O) : ((Int32 × BdT × RdT)) ⊕ (Int32 × BdT × RdT) → Prop
  | (.inl (x2, D, r)) => am_ev 2 k_Reader_readRank (125, [am_ju, am_ju, .int x2, am_ju, am_ju, am_ju, am_ju, am_ju], [], (zl sn sx, xa c0 T D r B tl, M, q)) oo
  | .inr (ov, oD, or) => oo = (.inl (some (.int ov)), (zl sn sx, xa c0 T oD or B tl, M, q))
theorem sj_Reader_readRank_125 {fu : Nat} {sn : Nat} {sx : Nat → Int32} {M : List am_C} {q : Nat × Nat} {c0 : am_C} {tl : List am_C} {T : TxT} {D : BdT} {r : RdT} {B : BdT} {x2 : Int32} {oo : am_O} {e : Int32 × BdT × RdT} (hx : y_Reader_readRank sn sx M q c0 tl T B oo e) (hM : j_Reader_readRank_125 fu T D r x2 = some e) : am_ev 2 k_Reader_readRank (125, [am_ju, am_ju, .int x2, am_ju, am_ju, am_ju, am_ju, am_ju], [], (zl sn sx, xa c0 T D r B tl, M, q)) oo := by
  unfold j_Reader_readRank_125 at hM
  rcases am_if hM with ⟨c1, hM⟩ | ⟨c1, hM⟩
  · refine am_ev.kt 3 135 131 [am_ju, am_ju, .int x2, am_ju, am_ju, am_ju, am_ju, am_ju] [] (zl sn sx, xa c0 T D r B tl, M, q) c1 (fun _ _ => rfl) ?_
    cases hM
    cases hx
    exact am_ev.kf 2 (fun _ _ => rfl)
  · refine am_ev.ke 3 135 131 [am_ju, am_ju, .int x2, am_ju, am_ju, am_ju, am_ju, am_ju] [] (zl sn sx, xa c0 T D r B tl, M, q) c1 (fun _ _ => rfl) ?_
    cases hM
    cases hx
    exact am_ev.kf 3 (fun _ _ => rfl)
theorem sj_Reader_readRank_106 {fu : Nat} {sn : Nat} {sx : Nat → Int32} {M : List am_C} {q : Nat × Nat} {c0 : am_C} {tl : List am_C} {T : TxT} {D : BdT} {r : RdT} {B : BdT} {x1 : Int32} {x2 : Int32} {x4 : Int32} {x6 : Int32} {oo : am_O} {e : ((Int32 × BdT × RdT)) ⊕ (Int32 × BdT × RdT)} {gg : Int32 → Int32 → Int32 → BdT → RdT → Option (((Int32 × BdT × RdT)) ⊕ (Int32 × BdT × RdT))} (hx : x_Reader_readRank_7 sn sx M q c0 tl T B x1 oo e) (hg : ∀ (x2 : Int32) (x3 : Int32) (x4 : Int32) (D : BdT) (r : RdT), gg x2 x3 x4 D r = some e → am_ev 2 k_Reader_readRank (7, [.ref 113, .int x1, .int x2, .int x3, .int x4, am_ju, am_ju, am_ju], [], (zl sn sx, xa c0 T D r B tl, M, q)) oo) (hM : j_Reader_readRank_106 fu gg T D r x1 x2 x4 x6 = some e) : am_ev 2 k_Reader_readRank (106, [.ref 113, .int x1, .int x2, am_ju, .int x4, am_ju, .int x6, am_ju], [], (zl sn sx, xa c0 T D r B tl, M, q)) oo := by
  unfold j_Reader_readRank_106 at hM
  refine am_ev.kg 10 (pc' := 7) (lv' := [.ref 113, .int x1, .int x2, .int x6, .int (x4 + (1 : Int32)), am_ju, .int x6, am_ju]) (st' := []) (h' := (zl sn sx, xa c0 T D (r + (1 : Int32)) B tl, M, q)) (fun _ _ => rfl) ?_
  refine am_ev.wk (lv' := [.ref 113, .int x1, .int x2, .int x6, .int (x4 + (1 : Int32)), am_ju, am_ju, am_ju]) (am_lc (Or.inr rfl) (am_lc (Or.inr rfl) (am_lc (Or.inr rfl) (am_lc (Or.inr rfl) (am_lc (Or.inr rfl) (am_lc (Or.inr rfl) (am_lc (Or.inl rfl) (am_lc (Or.inr rfl) am_ln)))))))) ?_
  exact hg _ _ _ _ _ hM
theorem sj_Reader_readRank_74 {fu : Nat} {sn : Nat} {sx : Nat → Int32} {M : List am_C} {q : Nat × Nat} {c0 : am_C} {tl : List am_C} {T : TxT} {D : BdT} {r : RdT} {B : BdT} {x1 : Int32} {x2 : Int32} {x4 : Int32} {x5 : Int32} {x6 : Int32} {oo : am_O} {e : ((Int32 × BdT × RdT)) ⊕ (Int32 × BdT × RdT)} {gg : Int32 → Int32 → Int32 → BdT → RdT → Option (((Int32 × BdT × RdT)) ⊕ (Int32 × BdT × RdT))} (hx : x_Reader_readRank_7 sn sx M q c0 tl T B x1 oo e) (hg : ∀ (x2 : Int32) (x3 : Int32) (x4 : Int32) (D : BdT) (r : RdT), gg x2 x3 x4 D r = some e → am_ev 2 k_Reader_readRank (7, [.ref 113, .int x1, .int x2, .int x3, .int x4, am_ju, am_ju, am_ju], [], (zl sn sx, xa c0 T D r B tl, M, q)) oo) (hM : j_Reader_readRank_74 fu gg T D r x1 x2 x4 x5 x6 = some e) : am_ev 2 k_Reader_readRank (74, [.ref 113, .int x1, .int x2, am_ju, .int x4, .int x5, .int x6, am_ju], [], (zl sn sx, xa c0 T D r B tl, M, q)) oo := by
  unfold j_Reader_readRank_74 at hM
  obtain ⟨rr, hc, hM⟩ := am_bind hM
  obtain ⟨r2, rfl⟩ : ∃ z, z = rr := ⟨_, rfl⟩
  refine am_ev.kg 1 (pc' := 76) (lv' := [.ref 113, .int x1, .int x2, am_ju, .int x4, .int x5, .int x6, am_ju]) (st' := [.int x5]) (h' := (zl sn sx, xa c0 T D r B tl, M, q)) (fun _ _ => rfl) ?_
  refine am_ev.call rfl rfl rfl ((s_Reader_manOf hc).mono (by decide)) ?_
  show am_ev _ k_Reader_readRank (79, [.ref 113, .int x1, .int x2, am_ju, .int x4, .int x5, .int x6, am_ju], [.int r2], (zl sn sx, xa c0 T D r B tl, M, q)) oo
  rcases am_if hM with ⟨c2, hM⟩ | ⟨c2, hM⟩
  · refine am_ev.kt 3 88 86 [.ref 113, .int x1, .int x2, am_ju, .int x4, .int x5, .int x6, .int r2] [] (zl sn sx, xa c0 T D r B tl, M, q) c2 (fun _ _ => rfl) ?_
    obtain ⟨rr, hc, hM⟩ := am_bind hM
    obtain ⟨bg3, rfl⟩ : ∃ z, z = rr := ⟨_, rfl⟩
    refine am_ev.kg 8 (pc' := 100) (lv' := [.ref 113, .int x1, .int x2, am_ju, .int x4, .int x5, .int x6, .int r2]) (st' := [.int r2, .int (x2 + ((8 : Int32) * x1)), .ref 104]) (h' := (zl sn sx, xa c0 T D r B tl, M, q)) (fun _ _ => rfl) ?_
    refine am_ev.call rfl rfl rfl ((s_Board_put_D hc).mono (by decide)) ?_
    show am_ev _ k_Reader_readRank (103, [.ref 113, .int x1, .int x2, am_ju, .int x4, .int x5, .int x6, .int r2], [], (zl sn sx, xa c0 T bg3 r B tl, M, q)) oo
    refine am_ev.kg 1 (pc' := 106) (lv' := [.ref 113, .int x1, .int (x2 + (1 : Int32)), am_ju, .int x4, .int x5, .int x6, .int r2]) (st' := []) (h' := (zl sn sx, xa c0 T bg3 r B tl, M, q)) (fun _ _ => rfl) ?_
    refine am_ev.wk (lv' := [.ref 113, .int x1, .int (x2 + (1 : Int32)), am_ju, .int x4, am_ju, .int x6, am_ju]) (am_lc (Or.inr rfl) (am_lc (Or.inr rfl) (am_lc (Or.inr rfl) (am_lc (Or.inr rfl) (am_lc (Or.inr rfl) (am_lc (Or.inl rfl) (am_lc (Or.inr rfl) (am_lc (Or.inl rfl) am_ln)))))))) ?_
    exact sj_Reader_readRank_106 hx hg hM
  · refine am_ev.ke 3 88 86 [.ref 113, .int x1, .int x2, am_ju, .int x4, .int x5, .int x6, .int r2] [] (zl sn sx, xa c0 T D r B tl, M, q) c2 (fun _ _ => rfl) ?_
    cases hM
    cases hx
    exact am_ev.kf 2 (fun _ _ => rfl)
theorem sj_Reader_readRank_52 {fu : Nat} {sn : Nat} {sx : Nat → Int32} {M : List am_C} {q : Nat × Nat} {c0 : am_C} {tl : List am_C} {T : TxT} {D : BdT} {r : RdT} {B : BdT} {x1 : Int32} {x2 : Int32} {x3 : Int32} {x4 : Int32} {x5 : Int32} {s0 : Int32} {oo : am_O} {e : ((Int32 × BdT × RdT)) ⊕ (Int32 × BdT × RdT)} {gg : Int32 → Int32 → Int32 → BdT → RdT → Option (((Int32 × BdT × RdT)) ⊕ (Int32 × BdT × RdT))} (hx : x_Reader_readRank_7 sn sx M q c0 tl T B x1 oo e) (hg : ∀ (x2 : Int32) (x3 : Int32) (x4 : Int32) (D : BdT) (r : RdT), gg x2 x3 x4 D r = some e → am_ev 2 k_Reader_readRank (7, [.ref 113, .int x1, .int x2, .int x3, .int x4, am_ju, am_ju, am_ju], [], (zl sn sx, xa c0 T D r B tl, M, q)) oo) (hM : j_Reader_readRank_52 fu gg T D r x1 x2 x3 x4 x5 s0 = some e) : am_ev 2 k_Reader_readRank (52, [.ref 113, .int x1, .int x2, .int x3, .int x4, .int x5, am_ju, am_ju], [.int s0], (zl sn sx, xa c0 T D r B tl, M, q)) oo := by
  unfold j_Reader_readRank_52 at hM
  rcases am_if hM with ⟨c3, hM⟩ | ⟨c3, hM⟩
  · refine am_ev.kt 3 74 59 [.ref 113, .int x1, .int x2, .int x3, .int x4, .int x5, .int s0, am_ju] [] (zl sn sx, xa c0 T D r B tl, M, q) c3 (fun _ _ => rfl) ?_
    refine am_ev.wk (lv' := [.ref 113, .int x1, .int x2, am_ju, .int x4, .int x5, .int s0, am_ju]) (am_lc (Or.inr rfl) (am_lc (Or.inr rfl) (am_lc (Or.inr rfl) (am_lc (Or.inl rfl) (am_lc (Or.inr rfl) (am_lc (Or.inr rfl) (am_lc (Or.inr rfl) (am_lc (Or.inr rfl) am_ln)))))))) ?_
    exact sj_Reader_readRank_74 hx hg hM
  · refine am_ev.ke 3 74 59 [.ref 113, .int x1, .int x2, .int x3, .int x4, .int x5, .int s0, am_ju] [] (zl sn sx, xa c0 T D r B tl, M, q) c3 (fun _ _ => rfl) ?_
    rcases am_if hM with ⟨c4, hM⟩ | ⟨c4, hM⟩
    · refine am_ev.kt 2 74 63 [.ref 113, .int x1, .int x2, .int x3, .int x4, .int x5, .int s0, am_ju] [] (zl sn sx, xa c0 T D r B tl, M, q) c4 (fun _ _ => rfl) ?_
      refine am_ev.wk (lv' := [.ref 113, .int x1, .int x2, am_ju, .int x4, .int x5, .int s0, am_ju]) (am_lc (Or.inr rfl) (am_lc (Or.inr rfl) (am_lc (Or.inr rfl) (am_lc (Or.inl rfl) (am_lc (Or.inr rfl) (am_lc (Or.inr rfl) (am_lc (Or.inr rfl) (am_lc (Or.inr rfl) am_ln)))))))) ?_
      exact sj_Reader_readRank_74 hx hg hM
    · refine am_ev.ke 2 74 63 [.ref 113, .int x1, .int x2, .int x3, .int x4, .int x5, .int s0, am_ju] [] (zl sn sx, xa c0 T D r B tl, M, q) c4 (fun _ _ => rfl) ?_
      refine am_ev.kg 7 (pc' := 106) (lv' := [.ref 113, .int x1, .int (x2 + (x5 - (48 : Int32))), .int x3, .int x4, .int x5, .int s0, am_ju]) (st' := []) (h' := (zl sn sx, xa c0 T D r B tl, M, q)) (fun _ _ => rfl) ?_
      refine am_ev.wk (lv' := [.ref 113, .int x1, .int (x2 + (x5 - (48 : Int32))), am_ju, .int x4, am_ju, .int s0, am_ju]) (am_lc (Or.inr rfl) (am_lc (Or.inr rfl) (am_lc (Or.inr rfl) (am_lc (Or.inl rfl) (am_lc (Or.inr rfl) (am_lc (Or.inl rfl) (am_lc (Or.inr rfl) (am_lc (Or.inr rfl) am_ln)))))))) ?_
      exact sj_Reader_readRank_106 hx hg hM
theorem sj_Reader_readRank_51 {fu : Nat} {sn : Nat} {sx : Nat → Int32} {M : List am_C} {q : Nat × Nat} {c0 : am_C} {tl : List am_C} {T : TxT} {D : BdT} {r : RdT} {B : BdT} {x1 : Int32} {x2 : Int32} {x3 : Int32} {x4 : Int32} {x5 : Int32} {oo : am_O} {e : ((Int32 × BdT × RdT)) ⊕ (Int32 × BdT × RdT)} {gg : Int32 → Int32 → Int32 → BdT → RdT → Option (((Int32 × BdT × RdT)) ⊕ (Int32 × BdT × RdT))} (hx : x_Reader_readRank_7 sn sx M q c0 tl T B x1 oo e) (hg : ∀ (x2 : Int32) (x3 : Int32) (x4 : Int32) (D : BdT) (r : RdT), gg x2 x3 x4 D r = some e → am_ev 2 k_Reader_readRank (7, [.ref 113, .int x1, .int x2, .int x3, .int x4, am_ju, am_ju, am_ju], [], (zl sn sx, xa c0 T D r B tl, M, q)) oo) (hM : j_Reader_readRank_51 fu gg T D r x1 x2 x3 x4 x5 = some e) : am_ev 2 k_Reader_readRank (51, [.ref 113, .int x1, .int x2, .int x3, .int x4, .int x5, am_ju, am_ju], [], (zl sn sx, xa c0 T D r B tl, M, q)) oo := by
  unfold j_Reader_readRank_51 at hM
  refine am_ev.kg 1 (pc' := 52) (lv' := [.ref 113, .int x1, .int x2, .int x3, .int x4, .int x5, am_ju, am_ju]) (st' := [.int (0 : Int32)]) (h' := (zl sn sx, xa c0 T D r B tl, M, q)) (fun _ _ => rfl) ?_
  exact sj_Reader_readRank_52 hx hg hM
theorem sb_Reader_readRank_7 {fu : Nat} {sn : Nat} {sx : Nat → Int32} {M : List am_C} {q : Nat × Nat} {c0 : am_C} {tl : List am_C} {T : TxT} {B : BdT} {x1 : Int32} {oo : am_O} {e : ((Int32 × BdT × RdT)) ⊕ (Int32 × BdT × RdT)} {gg : Int32 → Int32 → Int32 → BdT → RdT → Option (((Int32 × BdT × RdT)) ⊕ (Int32 × BdT × RdT))} (hx : x_Reader_readRank_7 sn sx M q c0 tl T B x1 oo e) (hg : ∀ (x2 : Int32) (x3 : Int32) (x4 : Int32) (D : BdT) (r : RdT), gg x2 x3 x4 D r = some e → am_ev 2 k_Reader_readRank (7, [.ref 113, .int x1, .int x2, .int x3, .int x4, am_ju, am_ju, am_ju], [], (zl sn sx, xa c0 T D r B tl, M, q)) oo) {x2 : Int32} {x3 : Int32} {x4 : Int32} {D : BdT} {r : RdT} (hM : b_Reader_readRank_7 fu T x1 gg x2 x3 x4 D r = some e) : am_ev 2 k_Reader_readRank (7, [.ref 113, .int x1, .int x2, .int x3, .int x4, am_ju, am_ju, am_ju], [], (zl sn sx, xa c0 T D r B tl, M, q)) oo := by
  unfold b_Reader_readRank_7 at hM
  rcases am_if hM with ⟨c5, hM⟩ | ⟨c5, hM⟩
  · refine am_ev.kt 3 125 14 [.ref 113, .int x1, .int x2, .int x3, .int x4, am_ju, am_ju, am_ju] [] (zl sn sx, xa c0 T D r B tl, M, q) c5 (fun _ _ => rfl) ?_
    refine am_ev.wk (lv' := [am_ju, am_ju, .int x2, am_ju, am_ju, am_ju, am_ju, am_ju]) (am_lc (Or.inl rfl) (am_lc (Or.inl rfl) (am_lc (Or.inr rfl) (am_lc (Or.inl rfl) (am_lc (Or.inl rfl) (am_lc (Or.inr rfl) (am_lc (Or.inr rfl) (am_lc (Or.inr rfl) am_ln)))))))) ?_
    cases hM
    exact hx
  · refine am_ev.ke 3 125 14 [.ref 113, .int x1, .int x2, .int x3, .int x4, am_ju, am_ju, am_ju] [] (zl sn sx, xa c0 T D r B tl, M, q) c5 (fun _ _ => rfl) ?_
    rcases am_if hM with ⟨c6, hM⟩ | ⟨c6, hM⟩
    · refine am_ev.kt 3 125 20 [.ref 113, .int x1, .int x2, .int x3, .int x4, am_ju, am_ju, am_ju] [] (zl sn sx, xa c0 T D r B tl, M, q) c6 (fun _ _ => rfl) ?_
      refine am_ev.wk (lv' := [am_ju, am_ju, .int x2, am_ju, am_ju, am_ju, am_ju, am_ju]) (am_lc (Or.inl rfl) (am_lc (Or.inl rfl) (am_lc (Or.inr rfl) (am_lc (Or.inl rfl) (am_lc (Or.inl rfl) (am_lc (Or.inr rfl) (am_lc (Or.inr rfl) (am_lc (Or.inr rfl) am_ln)))))))) ?_
      cases hM
      exact hx
    · refine am_ev.ke 3 125 20 [.ref 113, .int x1, .int x2, .int x3, .int x4, am_ju, am_ju, am_ju] [] (zl sn sx, xa c0 T D r B tl, M, q) c6 (fun _ _ => rfl) ?_
      obtain ⟨rr, hc, hM⟩ := am_bind hM
      obtain ⟨r1, rfl⟩ : ∃ z, z = rr := ⟨_, rfl⟩
      refine am_ev.kg 4 (pc' := 28) (lv' := [.ref 113, .int x1, .int x2, .int x3, .int x4, am_ju, am_ju, am_ju]) (st' := [.int r, .ref 102]) (h' := (zl sn sx, xa c0 T D r B tl, M, q)) (fun _ _ => rfl) ?_
      refine am_ev.call rfl rfl rfl ((s_Text_at hc).mono (by decide)) ?_
      show am_ev _ k_Reader_readRank (31, [.ref 113, .int x1, .int x2, .int x3, .int x4, am_ju, am_ju, am_ju], [.int r1], (zl sn sx, xa c0 T D r B tl, M, q)) oo
      rcases am_if hM with ⟨c7, hM⟩ | ⟨c7, hM⟩
      · refine am_ev.kt 4 51 40 [.ref 113, .int x1, .int x2, .int x3, .int x4, .int r1, am_ju, am_ju] [] (zl sn sx, xa c0 T D r B tl, M, q) c7 (fun _ _ => rfl) ?_
        exact sj_Reader_readRank_51 hx hg hM
      · refine am_ev.ke 4 51 40 [.ref 113, .int x1, .int x2, .int x3, .int x4, .int r1, am_ju, am_ju] [] (zl sn sx, xa c0 T D r B tl, M, q) c7 (fun _ _ => rfl) ?_
        rcases am_if hM with ⟨c8, hM⟩ | ⟨c8, hM⟩
        · refine am_ev.kt 3 51 47 [.ref 113, .int x1, .int x2, .int x3, .int x4, .int r1, am_ju, am_ju] [] (zl sn sx, xa c0 T D r B tl, M, q) c8 (fun _ _ => rfl) ?_
          exact sj_Reader_readRank_51 hx hg hM
        · refine am_ev.ke 3 51 47 [.ref 113, .int x1, .int x2, .int x3, .int x4, .int r1, am_ju, am_ju] [] (zl sn sx, xa c0 T D r B tl, M, q) c8 (fun _ _ => rfl) ?_
          refine am_ev.kg 2 (pc' := 52) (lv' := [.ref 113, .int x1, .int x2, .int x3, .int x4, .int r1, am_ju, am_ju]) (st' := [.int (1 : Int32)]) (h' := (zl sn sx, xa c0 T D r B tl, M, q)) (fun _ _ => rfl) ?_
          exact sj_Reader_readRank_52 hx hg hM
theorem sl_Reader_readRank_7 {fu : Nat} {sn : Nat} {sx : Nat → Int32} {M : List am_C} {q : Nat × Nat} {c0 : am_C} {tl : List am_C} {T : TxT} {B : BdT} {x1 : Int32} {oo : am_O} {e : ((Int32 × BdT × RdT)) ⊕ (Int32 × BdT × RdT)} (hx : x_Reader_readRank_7 sn sx M q c0 tl T B x1 oo e) : ∀ (n : Nat) (x2 : Int32) (x3 : Int32) (x4 : Int32) (D : BdT) (r : RdT), l_Reader_readRank_7 fu T x1 n x2 x3 x4 D r = some e → am_ev 2 k_Reader_readRank (7, [.ref 113, .int x1, .int x2, .int x3, .int x4, am_ju, am_ju, am_ju], [], (zl sn sx, xa c0 T D r B tl, M, q)) oo
  | 0, _, _, _, _, _, hM => by have h : (none : Option (((Int32 × BdT × RdT)) ⊕ (Int32 × BdT × RdT))) = some e := hM; cases h
  | n + 1, _, _, _, _, _, hM => sb_Reader_readRank_7 hx (fun _ _ _ _ _ hM => sl_Reader_readRank_7 hx n _ _ _ _ _ hM) hM
theorem se_Reader_readRank {fu : Nat} {sn : Nat} {sx : Nat → Int32} {M : List am_C} {q : Nat × Nat} {c0 : am_C} {tl : List am_C} {T : TxT} {D : BdT} {r : RdT} {B : BdT} {x1 : Int32} {oo : am_O} {e : Int32 × BdT × RdT} (hx : y_Reader_readRank sn sx M q c0 tl T B oo e) (hM : f_Reader_readRank fu x1 T D r = some e) : am_ev 2 k_Reader_readRank (0, [.ref 113, .int x1, am_ju, am_ju, am_ju, am_ju, am_ju, am_ju], [], (zl sn sx, xa c0 T D r B tl, M, q)) oo := by
  unfold f_Reader_readRank at hM
  refine am_ev.kg 6 (pc' := 7) (lv' := [.ref 113, .int x1, .int (0 : Int32), .int (0 : Int32), .int (0 : Int32), am_ju, am_ju, am_ju]) (st' := []) (h' := (zl sn sx, xa c0 T D r B tl, M, q)) (fun _ _ => rfl) ?_
  obtain ⟨z, hz, hM⟩ := am_bind hM
  rcases z with z | z
  ·
    obtain ⟨x2_1, dz_1, rz_1⟩ := z
    refine sl_Reader_readRank_7 ?_ _ _ _ _ _ _ hz
    show am_ev 2 k_Reader_readRank (125, [am_ju, am_ju, .int x2_1, am_ju, am_ju, am_ju, am_ju, am_ju], [], (zl sn sx, xa c0 T dz_1 rz_1 B tl, M, q)) oo
    exact sj_Reader_readRank_125 hx hM
  ·
    obtain ⟨ov, oD, or⟩ := z
    cases hM
    refine sl_Reader_readRank_7 ?_ _ _ _ _ _ _ hz
    exact hx
theorem s_Reader_readRank {fu : Nat} {sn : Nat} {sx : Nat → Int32} {M : List am_C} {q : Nat × Nat} {c0 : am_C} {tl : List am_C} {T : TxT} {D : BdT} {r : RdT} {B : BdT} {x1 : Int32} {ov : Int32} {oD : BdT} {or : RdT} (hM : f_Reader_readRank fu x1 T D r = some (ov, oD, or)) : am_cv 3 k_Reader_readRank [.ref 113, .int x1] (zl sn sx, xa c0 T D r B tl, M, q) (.inl (some (.int ov)), (zl sn sx, xa c0 T oD or B tl, M, q)) := am_cv.of rfl (se_Reader_readRank (e := (ov, oD, or)) (show y_Reader_readRank sn sx M q c0 tl T B _ (ov, oD, or) from rfl) hM)
def y_Reader_take (sn : Nat) (sx : Nat → Int32) (M : List am_C) (q : Nat × Nat) (c0 : am_C) (tl : List am_C) (T : TxT) (D : BdT) (B : BdT) (oo : am_O) : Int32 × RdT → Prop
  | (ov, or) => oo = (.inl (some (.int ov)), (zl sn sx, xa c0 T D or B tl, M, q))
theorem se_Reader_take {sn : Nat} {sx : Nat → Int32} {M : List am_C} {q : Nat × Nat} {c0 : am_C} {tl : List am_C} {T : TxT} {D : BdT} {r : RdT} {B : BdT} {x1 : Int32} {oo : am_O} {e : Int32 × RdT} (hx : y_Reader_take sn sx M q c0 tl T D B oo e) (hM : f_Reader_take x1 T r = some e) : am_ev 2 k_Reader_take (0, [.ref 113, .int x1], [], (zl sn sx, xa c0 T D r B tl, M, q)) oo := by
  unfold f_Reader_take at hM
  obtain ⟨rr, hc, hM⟩ := am_bind hM
  obtain ⟨r1, rfl⟩ : ∃ z, z = rr := ⟨_, rfl⟩
  refine am_ev.kg 4 (pc' := 8) (lv' := [.ref 113, .int x1]) (st' := [.int r, .ref 102]) (h' := (zl sn sx, xa c0 T D r B tl, M, q)) (fun _ _ => rfl) ?_
  refine am_ev.call rfl rfl rfl ((s_Text_at hc).mono (by decide)) ?_
  show am_ev _ k_Reader_take (11, [.ref 113, .int x1], [.int r1], (zl sn sx, xa c0 T D r B tl, M, q)) oo
  rcases am_if hM with ⟨c1, hM⟩ | ⟨c1, hM⟩
  · refine am_ev.kt 2 17 15 [.ref 113, .int x1] [] (zl sn sx, xa c0 T D r B tl, M, q) c1 (fun _ _ => rfl) ?_
    cases hM
    cases hx
    exact am_ev.kf 8 (fun _ _ => rfl)
  · refine am_ev.ke 2 17 15 [.ref 113, .int x1] [] (zl sn sx, xa c0 T D r B tl, M, q) c1 (fun _ _ => rfl) ?_
    cases hM
    cases hx
    exact am_ev.kf 2 (fun _ _ => rfl)
theorem s_Reader_take {sn : Nat} {sx : Nat → Int32} {M : List am_C} {q : Nat × Nat} {c0 : am_C} {tl : List am_C} {T : TxT} {D : BdT} {r : RdT} {B : BdT} {x1 : Int32} {ov : Int32} {or : RdT} (hM : f_Reader_take x1 T r = some (ov, or)) : am_cv 3 k_Reader_take [.ref 113, .int x1] (zl sn sx, xa c0 T D r B tl, M, q) (.inl (some (.int ov)), (zl sn sx, xa c0 T D or B tl, M, q)) := am_cv.of rfl (se_Reader_take (e := (ov, or)) (show y_Reader_take sn sx M q c0 tl T D B _ (ov, or) from rfl) hM)
def y_Reader_readMen (sn : Nat) (sx : Nat → Int32) (M : List am_C) (q : Nat × Nat) (c0 : am_C) (tl : List am_C) (T : TxT) (B : BdT) (oo : am_O) : Int32 × BdT × RdT → Prop
  | (ov, oD, or) => oo = (.inl (some (.int ov)), (zl sn sx, xa c0 T oD or B tl, M, q))
def x_Reader_readMen_3 (sn : Nat) (sx : Nat → Int32) (M : List am_C) (q : Nat × Nat) (c0 : am_C) (tl : List am_C) (T : TxT) (B : BdT) (oo : am_O) : Int32 × BdT × RdT → Prop
  | (ov, oD, or) => oo = (.inl (some (.int ov)), (zl sn sx, xa c0 T oD or B tl, M, q))
theorem sj_Reader_readMen_30 {fu : Nat} {sn : Nat} {sx : Nat → Int32} {M : List am_C} {q : Nat × Nat} {c0 : am_C} {tl : List am_C} {T : TxT} {D : BdT} {r : RdT} {B : BdT} {x1 : Int32} {oo : am_O} {e : Int32 × BdT × RdT} {gg : Int32 → BdT → RdT → Option (Int32 × BdT × RdT)} (hx : x_Reader_readMen_3 sn sx M q c0 tl T B oo e) (hg : ∀ (x1 : Int32) (D : BdT) (r : RdT), gg x1 D r = some e → am_ev 3 k_Reader_readMen (3, [.ref 113, .int x1], [], (zl sn sx, xa c0 T D r B tl, M, q)) oo) (hM : j_Reader_readMen_30 fu gg T D r x1 = some e) : am_ev 3 k_Reader_readMen (30, [.ref 113, .int x1], [], (zl sn sx, xa c0 T D r B tl, M, q)) oo := by
  unfold j_Reader_readMen_30 at hM
  refine am_ev.kg 2 (pc' := 3) (lv' := [.ref 113, .int (x1 + (-1 : Int32))]) (st' := []) (h' := (zl sn sx, xa c0 T D r B tl, M, q)) (fun _ _ => rfl) ?_
  exact hg _ _ _ hM
theorem sb_Reader_readMen_3 {fu : Nat} {sn : Nat} {sx : Nat → Int32} {M : List am_C} {q : Nat × Nat} {c0 : am_C} {tl : List am_C} {T : TxT} {B : BdT} {oo : am_O} {e : Int32 × BdT × RdT} {gg : Int32 → BdT → RdT → Option (Int32 × BdT × RdT)} (hx : x_Reader_readMen_3 sn sx M q c0 tl T B oo e) (hg : ∀ (x1 : Int32) (D : BdT) (r : RdT), gg x1 D r = some e → am_ev 3 k_Reader_readMen (3, [.ref 113, .int x1], [], (zl sn sx, xa c0 T D r B tl, M, q)) oo) {x1 : Int32} {D : BdT} {r : RdT} (hM : b_Reader_readMen_3 fu T gg x1 D r = some e) : am_ev 3 k_Reader_readMen (3, [.ref 113, .int x1], [], (zl sn sx, xa c0 T D r B tl, M, q)) oo := by
  unfold b_Reader_readMen_3 at hM
  rcases am_if hM with ⟨c1, hM⟩ | ⟨c1, hM⟩
  · refine am_ev.kt 2 36 7 [.ref 113, .int x1] [] (zl sn sx, xa c0 T D r B tl, M, q) c1 (fun _ _ => rfl) ?_
    cases hM
    cases hx
    exact am_ev.kf 2 (fun _ _ => rfl)
  · refine am_ev.ke 2 36 7 [.ref 113, .int x1] [] (zl sn sx, xa c0 T D r B tl, M, q) c1 (fun _ _ => rfl) ?_
    obtain ⟨rr, hc, hM⟩ := am_bind hM
    obtain ⟨r1, dg2, rg3⟩ := rr
    refine am_ev.kg 2 (pc' := 9) (lv' := [.ref 113, .int x1]) (st' := [.int x1, .ref 113]) (h' := (zl sn sx, xa c0 T D r B tl, M, q)) (fun _ _ => rfl) ?_
    refine am_ev.call rfl rfl rfl ((s_Reader_readRank hc).mono (by decide)) ?_
    show am_ev _ k_Reader_readMen (12, [.ref 113, .int x1], [.int r1], (zl sn sx, xa c0 T dg2 rg3 B tl, M, q)) oo
    rcases am_if hM with ⟨c2, hM⟩ | ⟨c2, hM⟩
    · refine am_ev.kt 1 28 15 [.ref 113, .int x1] [] (zl sn sx, xa c0 T dg2 rg3 B tl, M, q) c2 (fun _ _ => rfl) ?_
      cases hM
      cases hx
      exact am_ev.kf 2 (fun _ _ => rfl)
    · refine am_ev.ke 1 28 15 [.ref 113, .int x1] [] (zl sn sx, xa c0 T dg2 rg3 B tl, M, q) c2 (fun _ _ => rfl) ?_
      rcases am_if hM with ⟨c3, hM⟩ | ⟨c3, hM⟩
      · refine am_ev.kt 2 30 19 [.ref 113, .int x1] [] (zl sn sx, xa c0 T dg2 rg3 B tl, M, q) c3 (fun _ _ => rfl) ?_
        exact sj_Reader_readMen_30 hx hg hM
      · refine am_ev.ke 2 30 19 [.ref 113, .int x1] [] (zl sn sx, xa c0 T dg2 rg3 B tl, M, q) c3 (fun _ _ => rfl) ?_
        obtain ⟨rr, hc, hM⟩ := am_bind hM
        obtain ⟨r4, rg5⟩ := rr
        refine am_ev.kg 2 (pc' := 22) (lv' := [.ref 113, .int x1]) (st' := [.int (47 : Int32), .ref 113]) (h' := (zl sn sx, xa c0 T dg2 rg3 B tl, M, q)) (fun _ _ => rfl) ?_
        refine am_ev.call rfl rfl rfl ((s_Reader_take hc).mono (by decide)) ?_
        show am_ev _ k_Reader_readMen (25, [.ref 113, .int x1], [.int r4], (zl sn sx, xa c0 T dg2 rg5 B tl, M, q)) oo
        rcases am_if hM with ⟨c4, hM⟩ | ⟨c4, hM⟩
        · refine am_ev.kt 1 30 28 [.ref 113, .int x1] [] (zl sn sx, xa c0 T dg2 rg5 B tl, M, q) c4 (fun _ _ => rfl) ?_
          exact sj_Reader_readMen_30 hx hg hM
        · refine am_ev.ke 1 30 28 [.ref 113, .int x1] [] (zl sn sx, xa c0 T dg2 rg5 B tl, M, q) c4 (fun _ _ => rfl) ?_
          cases hM
          cases hx
          exact am_ev.kf 2 (fun _ _ => rfl)
theorem sl_Reader_readMen_3 {fu : Nat} {sn : Nat} {sx : Nat → Int32} {M : List am_C} {q : Nat × Nat} {c0 : am_C} {tl : List am_C} {T : TxT} {B : BdT} {oo : am_O} {e : Int32 × BdT × RdT} (hx : x_Reader_readMen_3 sn sx M q c0 tl T B oo e) : ∀ (n : Nat) (x1 : Int32) (D : BdT) (r : RdT), l_Reader_readMen_3 fu T n x1 D r = some e → am_ev 3 k_Reader_readMen (3, [.ref 113, .int x1], [], (zl sn sx, xa c0 T D r B tl, M, q)) oo
  | 0, _, _, _, hM => by have h : (none : Option (Int32 × BdT × RdT)) = some e := hM; cases h
  | n + 1, _, _, _, hM => sb_Reader_readMen_3 hx (fun _ _ _ hM => sl_Reader_readMen_3 hx n _ _ _ hM) hM
theorem se_Reader_readMen {fu : Nat} {sn : Nat} {sx : Nat → Int32} {M : List am_C} {q : Nat × Nat} {c0 : am_C} {tl : List am_C} {T : TxT} {D : BdT} {r : RdT} {B : BdT} {oo : am_O} {e : Int32 × BdT × RdT} (hx : y_Reader_readMen sn sx M q c0 tl T B oo e) (hM : f_Reader_readMen fu T D r = some e) : am_ev 3 k_Reader_readMen (0, [.ref 113, am_ju], [], (zl sn sx, xa c0 T D r B tl, M, q)) oo := by
  unfold f_Reader_readMen at hM
  refine am_ev.kg 2 (pc' := 3) (lv' := [.ref 113, .int (7 : Int32)]) (st' := []) (h' := (zl sn sx, xa c0 T D r B tl, M, q)) (fun _ _ => rfl) ?_
  obtain ⟨ov, oD, or⟩ := e
  refine sl_Reader_readMen_3 ?_ _ _ _ _ hM
  exact hx
theorem s_Reader_readMen {fu : Nat} {sn : Nat} {sx : Nat → Int32} {M : List am_C} {q : Nat × Nat} {c0 : am_C} {tl : List am_C} {T : TxT} {D : BdT} {r : RdT} {B : BdT} {ov : Int32} {oD : BdT} {or : RdT} (hM : f_Reader_readMen fu T D r = some (ov, oD, or)) : am_cv 4 k_Reader_readMen [.ref 113] (zl sn sx, xa c0 T D r B tl, M, q) (.inl (some (.int ov)), (zl sn sx, xa c0 T oD or B tl, M, q)) := am_cv.of rfl (se_Reader_readMen (e := (ov, oD, or)) (show y_Reader_readMen sn sx M q c0 tl T B _ (ov, oD, or) from rfl) hM)
def y_Reader_readSide (sn : Nat) (sx : Nat → Int32) (M : List am_C) (q : Nat × Nat) (c0 : am_C) (tl : List am_C) (T : TxT) (B : BdT) (oo : am_O) : Int32 × BdT × RdT → Prop
  | (ov, oD, or) => oo = (.inl (some (.int ov)), (zl sn sx, xa c0 T oD or B tl, M, q))
theorem sj_Reader_readSide_25 {sn : Nat} {sx : Nat → Int32} {M : List am_C} {q : Nat × Nat} {c0 : am_C} {tl : List am_C} {T : TxT} {D : BdT} {r : RdT} {B : BdT} {s1 : Int32} {oo : am_O} {e : Int32 × BdT × RdT} (hx : y_Reader_readSide sn sx M q c0 tl T B oo e) (hM : j_Reader_readSide_25 T D r s1 = some e) : am_ev 3 k_Reader_readSide (25, [.ref 113], [.int s1, .ref 104], (zl sn sx, xa c0 T D r B tl, M, q)) oo := by
  unfold j_Reader_readSide_25 at hM
  obtain ⟨rr, hc, hM⟩ := am_bind hM
  obtain ⟨r2, rg3⟩ := rr
  refine am_ev.kg 3 (pc' := 31) (lv' := [.ref 113]) (st' := [.int (98 : Int32), .ref 113]) (h' := (zl sn sx, xa c0 T ((bd_men D), (bd_held D), (bd_kings D), s1, (bd_rights D), (bd_passed D), (bd_depth D), (bd_made D), (bd_taken D), (bd_takenAt D), (bd_rightsBefore D), (bd_passedBefore D)) r B tl, M, q)) (fun _ _ => rfl) ?_
  refine am_ev.call rfl rfl rfl ((s_Reader_take hc).mono (by decide)) ?_
  show am_ev _ k_Reader_readSide (34, [.ref 113], [.int r2], (zl sn sx, xa c0 T ((bd_men D), (bd_held D), (bd_kings D), s1, (bd_rights D), (bd_passed D), (bd_depth D), (bd_made D), (bd_taken D), (bd_takenAt D), (bd_rightsBefore D), (bd_passedBefore D)) rg3 B tl, M, q)) oo
  rcases am_if hM with ⟨c1, hM⟩ | ⟨c1, hM⟩
  · refine am_ev.kt 1 46 37 [.ref 113] [] (zl sn sx, xa c0 T ((bd_men D), (bd_held D), (bd_kings D), s1, (bd_rights D), (bd_passed D), (bd_depth D), (bd_made D), (bd_taken D), (bd_takenAt D), (bd_rightsBefore D), (bd_passedBefore D)) rg3 B tl, M, q) c1 (fun _ _ => rfl) ?_
    cases hM
    cases hx
    exact am_ev.kf 3 (fun _ _ => rfl)
  · refine am_ev.ke 1 46 37 [.ref 113] [] (zl sn sx, xa c0 T ((bd_men D), (bd_held D), (bd_kings D), s1, (bd_rights D), (bd_passed D), (bd_depth D), (bd_made D), (bd_taken D), (bd_takenAt D), (bd_rightsBefore D), (bd_passedBefore D)) rg3 B tl, M, q) c1 (fun _ _ => rfl) ?_
    obtain ⟨rr, hc, hM⟩ := am_bind hM
    obtain ⟨r4, rg5⟩ := rr
    refine am_ev.kg 2 (pc' := 40) (lv' := [.ref 113]) (st' := [.int (119 : Int32), .ref 113]) (h' := (zl sn sx, xa c0 T ((bd_men D), (bd_held D), (bd_kings D), s1, (bd_rights D), (bd_passed D), (bd_depth D), (bd_made D), (bd_taken D), (bd_takenAt D), (bd_rightsBefore D), (bd_passedBefore D)) rg3 B tl, M, q)) (fun _ _ => rfl) ?_
    refine am_ev.call rfl rfl rfl ((s_Reader_take hc).mono (by decide)) ?_
    show am_ev _ k_Reader_readSide (43, [.ref 113], [.int r4], (zl sn sx, xa c0 T ((bd_men D), (bd_held D), (bd_kings D), s1, (bd_rights D), (bd_passed D), (bd_depth D), (bd_made D), (bd_taken D), (bd_takenAt D), (bd_rightsBefore D), (bd_passedBefore D)) rg5 B tl, M, q)) oo
    rcases am_if hM with ⟨c2, hM⟩ | ⟨c2, hM⟩
    · refine am_ev.kt 1 50 46 [.ref 113] [] (zl sn sx, xa c0 T ((bd_men D), (bd_held D), (bd_kings D), s1, (bd_rights D), (bd_passed D), (bd_depth D), (bd_made D), (bd_taken D), (bd_takenAt D), (bd_rightsBefore D), (bd_passedBefore D)) rg5 B tl, M, q) c2 (fun _ _ => rfl) ?_
      cases hM
      cases hx
      exact am_ev.kf 2 (fun _ _ => rfl)
    · refine am_ev.ke 1 50 46 [.ref 113] [] (zl sn sx, xa c0 T ((bd_men D), (bd_held D), (bd_kings D), s1, (bd_rights D), (bd_passed D), (bd_depth D), (bd_made D), (bd_taken D), (bd_takenAt D), (bd_rightsBefore D), (bd_passedBefore D)) rg5 B tl, M, q) c2 (fun _ _ => rfl) ?_
      cases hM
      cases hx
      exact am_ev.kf 3 (fun _ _ => rfl)
theorem se_Reader_readSide {sn : Nat} {sx : Nat → Int32} {M : List am_C} {q : Nat × Nat} {c0 : am_C} {tl : List am_C} {T : TxT} {D : BdT} {r : RdT} {B : BdT} {oo : am_O} {e : Int32 × BdT × RdT} (hx : y_Reader_readSide sn sx M q c0 tl T B oo e) (hM : f_Reader_readSide T D r = some e) : am_ev 3 k_Reader_readSide (0, [.ref 113], [], (zl sn sx, xa c0 T D r B tl, M, q)) oo := by
  unfold f_Reader_readSide at hM
  obtain ⟨rr, hc, hM⟩ := am_bind hM
  obtain ⟨r1, rfl⟩ : ∃ z, z = rr := ⟨_, rfl⟩
  refine am_ev.kg 6 (pc' := 12) (lv' := [.ref 113]) (st' := [.int r, .ref 102, .ref 104]) (h' := (zl sn sx, xa c0 T D r B tl, M, q)) (fun _ _ => rfl) ?_
  refine am_ev.call rfl rfl rfl ((s_Text_at hc).mono (by decide)) ?_
  show am_ev _ k_Reader_readSide (15, [.ref 113], [.int r1, .ref 104], (zl sn sx, xa c0 T D r B tl, M, q)) oo
  rcases am_if hM with ⟨c3, hM⟩ | ⟨c3, hM⟩
  · refine am_ev.kt 2 24 20 [.ref 113] [.ref 104] (zl sn sx, xa c0 T D r B tl, M, q) c3 (fun _ _ => rfl) ?_
    refine am_ev.kg 1 (pc' := 25) (lv' := [.ref 113]) (st' := [.int (0 : Int32), .ref 104]) (h' := (zl sn sx, xa c0 T D r B tl, M, q)) (fun _ _ => rfl) ?_
    exact sj_Reader_readSide_25 hx hM
  · refine am_ev.ke 2 24 20 [.ref 113] [.ref 104] (zl sn sx, xa c0 T D r B tl, M, q) c3 (fun _ _ => rfl) ?_
    refine am_ev.kg 2 (pc' := 25) (lv' := [.ref 113]) (st' := [.int (1 : Int32), .ref 104]) (h' := (zl sn sx, xa c0 T D r B tl, M, q)) (fun _ _ => rfl) ?_
    exact sj_Reader_readSide_25 hx hM
theorem s_Reader_readSide {sn : Nat} {sx : Nat → Int32} {M : List am_C} {q : Nat × Nat} {c0 : am_C} {tl : List am_C} {T : TxT} {D : BdT} {r : RdT} {B : BdT} {ov : Int32} {oD : BdT} {or : RdT} (hM : f_Reader_readSide T D r = some (ov, oD, or)) : am_cv 4 k_Reader_readSide [.ref 113] (zl sn sx, xa c0 T D r B tl, M, q) (.inl (some (.int ov)), (zl sn sx, xa c0 T oD or B tl, M, q)) := am_cv.of rfl (se_Reader_readSide (e := (ov, oD, or)) (show y_Reader_readSide sn sx M q c0 tl T B _ (ov, oD, or) from rfl) hM)
def y_Reader_readRights (sn : Nat) (sx : Nat → Int32) (M : List am_C) (q : Nat × Nat) (c0 : am_C) (tl : List am_C) (T : TxT) (B : BdT) (oo : am_O) : Int32 × BdT × RdT → Prop
  | (ov, oD, or) => oo = (.inl (some (.int ov)), (zl sn sx, xa c0 T oD or B tl, M, q))
def x_Reader_readRights_13 (sn : Nat) (sx : Nat → Int32) (M : List am_C) (q : Nat × Nat) (c0 : am_C) (tl : List am_C) (T : TxT) (B : BdT) (oo : am_O) : (BdT × RdT) → Prop
  | (D, r) => am_ev 3 k_Reader_readRights (56, [.ref 113, am_ju], [], (zl sn sx, xa c0 T D r B tl, M, q)) oo
theorem sj_Reader_readRights_56 {fu : Nat} {sn : Nat} {sx : Nat → Int32} {M : List am_C} {q : Nat × Nat} {c0 : am_C} {tl : List am_C} {T : TxT} {D : BdT} {r : RdT} {B : BdT} {oo : am_O} {e : Int32 × BdT × RdT} (hx : y_Reader_readRights sn sx M q c0 tl T B oo e) (hM : j_Reader_readRights_56 fu T D r = some e) : am_ev 3 k_Reader_readRights (56, [.ref 113, am_ju], [], (zl sn sx, xa c0 T D r B tl, M, q)) oo := by
  unfold j_Reader_readRights_56 at hM
  rcases am_if hM with ⟨c1, hM⟩ | ⟨c1, hM⟩
  · refine am_ev.kt 4 70 66 [.ref 113, am_ju] [] (zl sn sx, xa c0 T D r B tl, M, q) c1 (fun _ _ => rfl) ?_
    cases hM
    cases hx
    exact am_ev.kf 2 (fun _ _ => rfl)
  · refine am_ev.ke 4 70 66 [.ref 113, am_ju] [] (zl sn sx, xa c0 T D r B tl, M, q) c1 (fun _ _ => rfl) ?_
    cases hM
    cases hx
    exact am_ev.kf 3 (fun _ _ => rfl)
theorem sj_Reader_readRights_50 {fu : Nat} {sn : Nat} {sx : Nat → Int32} {M : List am_C} {q : Nat × Nat} {c0 : am_C} {tl : List am_C} {T : TxT} {D : BdT} {r : RdT} {B : BdT} {x1 : Int32} {oo : am_O} {e : (BdT × RdT)} {gg : Int32 → BdT → RdT → Option ((BdT × RdT))} (hx : x_Reader_readRights_13 sn sx M q c0 tl T B oo e) (hg : ∀ (x1 : Int32) (D : BdT) (r : RdT), gg x1 D r = some e → am_ev 3 k_Reader_readRights (13, [.ref 113, .int x1], [], (zl sn sx, xa c0 T D r B tl, M, q)) oo) (hM : j_Reader_readRights_50 fu gg T D r x1 = some e) : am_ev 3 k_Reader_readRights (50, [.ref 113, .int x1], [], (zl sn sx, xa c0 T D r B tl, M, q)) oo := by
  unfold j_Reader_readRights_50 at hM
  refine am_ev.kg 2 (pc' := 13) (lv' := [.ref 113, .int (x1 + (1 : Int32))]) (st' := []) (h' := (zl sn sx, xa c0 T D r B tl, M, q)) (fun _ _ => rfl) ?_
  exact hg _ _ _ hM
theorem sb_Reader_readRights_13 {fu : Nat} {sn : Nat} {sx : Nat → Int32} {M : List am_C} {q : Nat × Nat} {c0 : am_C} {tl : List am_C} {T : TxT} {B : BdT} {oo : am_O} {e : (BdT × RdT)} {gg : Int32 → BdT → RdT → Option ((BdT × RdT))} (hx : x_Reader_readRights_13 sn sx M q c0 tl T B oo e) (hg : ∀ (x1 : Int32) (D : BdT) (r : RdT), gg x1 D r = some e → am_ev 3 k_Reader_readRights (13, [.ref 113, .int x1], [], (zl sn sx, xa c0 T D r B tl, M, q)) oo) {x1 : Int32} {D : BdT} {r : RdT} (hM : b_Reader_readRights_13 fu T gg x1 D r = some e) : am_ev 3 k_Reader_readRights (13, [.ref 113, .int x1], [], (zl sn sx, xa c0 T D r B tl, M, q)) oo := by
  unfold b_Reader_readRights_13 at hM
  rcases am_if hM with ⟨c2, hM⟩ | ⟨c2, hM⟩
  · refine am_ev.kt 4 56 22 [.ref 113, .int x1] [] (zl sn sx, xa c0 T D r B tl, M, q) c2 (fun _ _ => rfl) ?_
    refine am_ev.wk (lv' := [.ref 113, am_ju]) (am_lc (Or.inr rfl) (am_lc (Or.inl rfl) am_ln)) ?_
    cases hM
    exact hx
  · refine am_ev.ke 4 56 22 [.ref 113, .int x1] [] (zl sn sx, xa c0 T D r B tl, M, q) c2 (fun _ _ => rfl) ?_
    obtain ⟨c3, hM⟩ := am_ifn hM
    refine am_ev.kc 4 29 [.ref 113, .int x1] [.int (tb_RIGHTS (x1).toNatClampNeg), .ref 113] (zl sn sx, xa c0 T D r B tl, M, q) c3 (fun _ _ => rfl) ?_
    obtain ⟨rr, hc, hM⟩ := am_bind hM
    obtain ⟨r3, rg4⟩ := rr
    refine am_ev.call rfl rfl rfl ((s_Reader_take hc).mono (by decide)) ?_
    show am_ev _ k_Reader_readRights (32, [.ref 113, .int x1], [.int r3], (zl sn sx, xa c0 T D rg4 B tl, M, q)) oo
    rcases am_if hM with ⟨c4, hM⟩ | ⟨c4, hM⟩
    · refine am_ev.kt 1 50 35 [.ref 113, .int x1] [] (zl sn sx, xa c0 T D rg4 B tl, M, q) c4 (fun _ _ => rfl) ?_
      exact sj_Reader_readRights_50 hx hg hM
    · refine am_ev.ke 1 50 35 [.ref 113, .int x1] [] (zl sn sx, xa c0 T D rg4 B tl, M, q) c4 (fun _ _ => rfl) ?_
      refine am_ev.kg 9 (pc' := 50) (lv' := [.ref 113, .int x1]) (st' := []) (h' := (zl sn sx, xa c0 T ((bd_men D), (bd_held D), (bd_kings D), (bd_side D), ((bd_rights D) ||| ((1 : Int32) <<< (x1 &&& 31))), (bd_passed D), (bd_depth D), (bd_made D), (bd_taken D), (bd_takenAt D), (bd_rightsBefore D), (bd_passedBefore D)) rg4 B tl, M, q)) (fun _ _ => rfl) ?_
      exact sj_Reader_readRights_50 hx hg hM
theorem sl_Reader_readRights_13 {fu : Nat} {sn : Nat} {sx : Nat → Int32} {M : List am_C} {q : Nat × Nat} {c0 : am_C} {tl : List am_C} {T : TxT} {B : BdT} {oo : am_O} {e : (BdT × RdT)} (hx : x_Reader_readRights_13 sn sx M q c0 tl T B oo e) : ∀ (n : Nat) (x1 : Int32) (D : BdT) (r : RdT), l_Reader_readRights_13 fu T n x1 D r = some e → am_ev 3 k_Reader_readRights (13, [.ref 113, .int x1], [], (zl sn sx, xa c0 T D r B tl, M, q)) oo
  | 0, _, _, _, hM => by have h : (none : Option ((BdT × RdT))) = some e := hM; cases h
  | n + 1, _, _, _, hM => sb_Reader_readRights_13 hx (fun _ _ _ hM => sl_Reader_readRights_13 hx n _ _ _ hM) hM
theorem se_Reader_readRights {fu : Nat} {sn : Nat} {sx : Nat → Int32} {M : List am_C} {q : Nat × Nat} {c0 : am_C} {tl : List am_C} {T : TxT} {D : BdT} {r : RdT} {B : BdT} {oo : am_O} {e : Int32 × BdT × RdT} (hx : y_Reader_readRights sn sx M q c0 tl T B oo e) (hM : f_Reader_readRights fu T D r = some e) : am_ev 3 k_Reader_readRights (0, [.ref 113, am_ju], [], (zl sn sx, xa c0 T D r B tl, M, q)) oo := by
  unfold f_Reader_readRights at hM
  obtain ⟨rr, hc, hM⟩ := am_bind hM
  obtain ⟨r1, rg2⟩ := rr
  refine am_ev.kg 2 (pc' := 3) (lv' := [.ref 113, am_ju]) (st' := [.int (45 : Int32), .ref 113]) (h' := (zl sn sx, xa c0 T D r B tl, M, q)) (fun _ _ => rfl) ?_
  refine am_ev.call rfl rfl rfl ((s_Reader_take hc).mono (by decide)) ?_
  show am_ev _ k_Reader_readRights (6, [.ref 113, am_ju], [.int r1], (zl sn sx, xa c0 T D rg2 B tl, M, q)) oo
  rcases am_if hM with ⟨c5, hM⟩ | ⟨c5, hM⟩
  · refine am_ev.kt 1 11 9 [.ref 113, am_ju] [] (zl sn sx, xa c0 T D rg2 B tl, M, q) c5 (fun _ _ => rfl) ?_
    refine am_ev.kg 2 (pc' := 13) (lv' := [.ref 113, .int (0 : Int32)]) (st' := []) (h' := (zl sn sx, xa c0 T D rg2 B tl, M, q)) (fun _ _ => rfl) ?_
    obtain ⟨z, hz, hM⟩ := am_bind hM
    obtain ⟨dz_1, rz_1⟩ := z
    refine sl_Reader_readRights_13 ?_ _ _ _ _ hz
    show am_ev 3 k_Reader_readRights (56, [.ref 113, am_ju], [], (zl sn sx, xa c0 T dz_1 rz_1 B tl, M, q)) oo
    exact sj_Reader_readRights_56 hx hM
  · refine am_ev.ke 1 11 9 [.ref 113, am_ju] [] (zl sn sx, xa c0 T D rg2 B tl, M, q) c5 (fun _ _ => rfl) ?_
    cases hM
    cases hx
    exact am_ev.kf 2 (fun _ _ => rfl)
theorem s_Reader_readRights {fu : Nat} {sn : Nat} {sx : Nat → Int32} {M : List am_C} {q : Nat × Nat} {c0 : am_C} {tl : List am_C} {T : TxT} {D : BdT} {r : RdT} {B : BdT} {ov : Int32} {oD : BdT} {or : RdT} (hM : f_Reader_readRights fu T D r = some (ov, oD, or)) : am_cv 4 k_Reader_readRights [.ref 113] (zl sn sx, xa c0 T D r B tl, M, q) (.inl (some (.int ov)), (zl sn sx, xa c0 T oD or B tl, M, q)) := am_cv.of rfl (se_Reader_readRights (e := (ov, oD, or)) (show y_Reader_readRights sn sx M q c0 tl T B _ (ov, oD, or) from rfl) hM)
def y_Reader_readPassed (sn : Nat) (sx : Nat → Int32) (M : List am_C) (q : Nat × Nat) (c0 : am_C) (tl : List am_C) (T : TxT) (B : BdT) (oo : am_O) : Int32 × BdT × RdT → Prop
  | (ov, oD, or) => oo = (.inl (some (.int ov)), (zl sn sx, xa c0 T oD or B tl, M, q))
theorem se_Reader_readPassed {sn : Nat} {sx : Nat → Int32} {M : List am_C} {q : Nat × Nat} {c0 : am_C} {tl : List am_C} {T : TxT} {D : BdT} {r : RdT} {B : BdT} {oo : am_O} {e : Int32 × BdT × RdT} (hx : y_Reader_readPassed sn sx M q c0 tl T B oo e) (hM : f_Reader_readPassed T D r = some e) : am_ev 3 k_Reader_readPassed (0, [.ref 113, am_ju, am_ju], [], (zl sn sx, xa c0 T D r B tl, M, q)) oo := by
  unfold f_Reader_readPassed at hM
  obtain ⟨rr, hc, hM⟩ := am_bind hM
  obtain ⟨r1, rg2⟩ := rr
  refine am_ev.kg 2 (pc' := 3) (lv' := [.ref 113, am_ju, am_ju]) (st' := [.int (45 : Int32), .ref 113]) (h' := (zl sn sx, xa c0 T D r B tl, M, q)) (fun _ _ => rfl) ?_
  refine am_ev.call rfl rfl rfl ((s_Reader_take hc).mono (by decide)) ?_
  show am_ev _ k_Reader_readPassed (6, [.ref 113, am_ju, am_ju], [.int r1], (zl sn sx, xa c0 T D rg2 B tl, M, q)) oo
  rcases am_if hM with ⟨c1, hM⟩ | ⟨c1, hM⟩
  · refine am_ev.kt 1 11 9 [.ref 113, am_ju, am_ju] [] (zl sn sx, xa c0 T D rg2 B tl, M, q) c1 (fun _ _ => rfl) ?_
    obtain ⟨rr, hc, hM⟩ := am_bind hM
    obtain ⟨r3, rfl⟩ : ∃ z, z = rr := ⟨_, rfl⟩
    refine am_ev.kg 4 (pc' := 19) (lv' := [.ref 113, am_ju, am_ju]) (st' := [.int rg2, .ref 102]) (h' := (zl sn sx, xa c0 T D rg2 B tl, M, q)) (fun _ _ => rfl) ?_
    refine am_ev.call rfl rfl rfl ((s_Text_at hc).mono (by decide)) ?_
    show am_ev _ k_Reader_readPassed (22, [.ref 113, am_ju, am_ju], [.int r3], (zl sn sx, xa c0 T D rg2 B tl, M, q)) oo
    obtain ⟨rr, hc, hM⟩ := am_bind hM
    obtain ⟨r4, rfl⟩ : ∃ z, z = rr := ⟨_, rfl⟩
    refine am_ev.kg 9 (pc' := 36) (lv' := [.ref 113, .int (r3 - (97 : Int32)), am_ju]) (st' := [.int (rg2 + (1 : Int32)), .ref 102]) (h' := (zl sn sx, xa c0 T D rg2 B tl, M, q)) (fun _ _ => rfl) ?_
    refine am_ev.call rfl rfl rfl ((s_Text_at hc).mono (by decide)) ?_
    show am_ev _ k_Reader_readPassed (39, [.ref 113, .int (r3 - (97 : Int32)), am_ju], [.int r4], (zl sn sx, xa c0 T D rg2 B tl, M, q)) oo
    rcases am_if hM with ⟨c2, hM⟩ | ⟨c2, hM⟩
    · refine am_ev.kt 5 63 47 [.ref 113, .int (r3 - (97 : Int32)), .int (r4 - (49 : Int32))] [] (zl sn sx, xa c0 T D rg2 B tl, M, q) c2 (fun _ _ => rfl) ?_
      cases hM
      cases hx
      exact am_ev.kf 2 (fun _ _ => rfl)
    · refine am_ev.ke 5 63 47 [.ref 113, .int (r3 - (97 : Int32)), .int (r4 - (49 : Int32))] [] (zl sn sx, xa c0 T D rg2 B tl, M, q) c2 (fun _ _ => rfl) ?_
      rcases am_if hM with ⟨c3, hM⟩ | ⟨c3, hM⟩
      · refine am_ev.kt 3 63 53 [.ref 113, .int (r3 - (97 : Int32)), .int (r4 - (49 : Int32))] [] (zl sn sx, xa c0 T D rg2 B tl, M, q) c3 (fun _ _ => rfl) ?_
        cases hM
        cases hx
        exact am_ev.kf 2 (fun _ _ => rfl)
      · refine am_ev.ke 3 63 53 [.ref 113, .int (r3 - (97 : Int32)), .int (r4 - (49 : Int32))] [] (zl sn sx, xa c0 T D rg2 B tl, M, q) c3 (fun _ _ => rfl) ?_
        rcases am_if hM with ⟨c4, hM⟩ | ⟨c4, hM⟩
        · refine am_ev.kt 2 63 57 [.ref 113, .int (r3 - (97 : Int32)), .int (r4 - (49 : Int32))] [] (zl sn sx, xa c0 T D rg2 B tl, M, q) c4 (fun _ _ => rfl) ?_
          cases hM
          cases hx
          exact am_ev.kf 2 (fun _ _ => rfl)
        · refine am_ev.ke 2 63 57 [.ref 113, .int (r3 - (97 : Int32)), .int (r4 - (49 : Int32))] [] (zl sn sx, xa c0 T D rg2 B tl, M, q) c4 (fun _ _ => rfl) ?_
          rcases am_if hM with ⟨c5, hM⟩ | ⟨c5, hM⟩
          · refine am_ev.kt 3 65 63 [.ref 113, .int (r3 - (97 : Int32)), .int (r4 - (49 : Int32))] [] (zl sn sx, xa c0 T D rg2 B tl, M, q) c5 (fun _ _ => rfl) ?_
            cases hM
            cases hx
            exact am_ev.kf 16 (fun _ _ => rfl)
          · refine am_ev.ke 3 65 63 [.ref 113, .int (r3 - (97 : Int32)), .int (r4 - (49 : Int32))] [] (zl sn sx, xa c0 T D rg2 B tl, M, q) c5 (fun _ _ => rfl) ?_
            cases hM
            cases hx
            exact am_ev.kf 2 (fun _ _ => rfl)
  · refine am_ev.ke 1 11 9 [.ref 113, am_ju, am_ju] [] (zl sn sx, xa c0 T D rg2 B tl, M, q) c1 (fun _ _ => rfl) ?_
    cases hM
    cases hx
    exact am_ev.kf 2 (fun _ _ => rfl)
theorem s_Reader_readPassed {sn : Nat} {sx : Nat → Int32} {M : List am_C} {q : Nat × Nat} {c0 : am_C} {tl : List am_C} {T : TxT} {D : BdT} {r : RdT} {B : BdT} {ov : Int32} {oD : BdT} {or : RdT} (hM : f_Reader_readPassed T D r = some (ov, oD, or)) : am_cv 4 k_Reader_readPassed [.ref 113] (zl sn sx, xa c0 T D r B tl, M, q) (.inl (some (.int ov)), (zl sn sx, xa c0 T oD or B tl, M, q)) := am_cv.of rfl (se_Reader_readPassed (e := (ov, oD, or)) (show y_Reader_readPassed sn sx M q c0 tl T B _ (ov, oD, or) from rfl) hM)
def y_Reader_readNumber (sn : Nat) (sx : Nat → Int32) (M : List am_C) (q : Nat × Nat) (c0 : am_C) (tl : List am_C) (T : TxT) (D : BdT) (B : BdT) (oo : am_O) : Int32 × RdT → Prop
  | (ov, or) => oo = (.inl (some (.int ov)), (zl sn sx, xa c0 T D or B tl, M, q))
def x_Reader_readNumber_40 (sn : Nat) (sx : Nat → Int32) (M : List am_C) (q : Nat × Nat) (c0 : am_C) (tl : List am_C) (T : TxT) (D : BdT) (B : BdT) (x2 : Int32) (oo : am_O) : Int32 × RdT → Prop
  | (ov, or) => oo = (.inl (some (.int ov)), (zl sn sx, xa c0 T D or B tl, M, q))
theorem sj_Reader_readNumber_87 {fu : Nat} {sn : Nat} {sx : Nat → Int32} {M : List am_C} {q : Nat × Nat} {c0 : am_C} {tl : List am_C} {T : TxT} {D : BdT} {r : RdT} {B : BdT} {x2 : Int32} {x3 : Int32} {oo : am_O} {e : Int32 × RdT} {gg : Int32 → RdT → Option (Int32 × RdT)} (hx : x_Reader_readNumber_40 sn sx M q c0 tl T D B x2 oo e) (hg : ∀ (x3 : Int32) (r : RdT), gg x3 r = some e → am_ev 2 k_Reader_readNumber (40, [.ref 113, am_ju, .int x2, .int x3, am_ju], [], (zl sn sx, xa c0 T D r B tl, M, q)) oo) (hM : j_Reader_readNumber_87 fu gg T r x2 x3 = some e) : am_ev 2 k_Reader_readNumber (87, [.ref 113, am_ju, .int x2, .int x3, am_ju], [], (zl sn sx, xa c0 T D r B tl, M, q)) oo := by
  unfold j_Reader_readNumber_87 at hM
  refine am_ev.kg 2 (pc' := 40) (lv' := [.ref 113, am_ju, .int x2, .int (x3 + (1 : Int32)), am_ju]) (st' := []) (h' := (zl sn sx, xa c0 T D r B tl, M, q)) (fun _ _ => rfl) ?_
  exact hg _ _ hM
theorem sb_Reader_readNumber_40 {fu : Nat} {sn : Nat} {sx : Nat → Int32} {M : List am_C} {q : Nat × Nat} {c0 : am_C} {tl : List am_C} {T : TxT} {D : BdT} {B : BdT} {x2 : Int32} {oo : am_O} {e : Int32 × RdT} {gg : Int32 → RdT → Option (Int32 × RdT)} (hx : x_Reader_readNumber_40 sn sx M q c0 tl T D B x2 oo e) (hg : ∀ (x3 : Int32) (r : RdT), gg x3 r = some e → am_ev 2 k_Reader_readNumber (40, [.ref 113, am_ju, .int x2, .int x3, am_ju], [], (zl sn sx, xa c0 T D r B tl, M, q)) oo) {x3 : Int32} {r : RdT} (hM : b_Reader_readNumber_40 fu T x2 gg x3 r = some e) : am_ev 2 k_Reader_readNumber (40, [.ref 113, am_ju, .int x2, .int x3, am_ju], [], (zl sn sx, xa c0 T D r B tl, M, q)) oo := by
  unfold b_Reader_readNumber_40 at hM
  rcases am_if hM with ⟨c1, hM⟩ | ⟨c1, hM⟩
  · refine am_ev.kt 3 93 45 [.ref 113, am_ju, .int x2, .int x3, am_ju] [] (zl sn sx, xa c0 T D r B tl, M, q) c1 (fun _ _ => rfl) ?_
    cases hM
    cases hx
    exact am_ev.kf 2 (fun _ _ => rfl)
  · refine am_ev.ke 3 93 45 [.ref 113, am_ju, .int x2, .int x3, am_ju] [] (zl sn sx, xa c0 T D r B tl, M, q) c1 (fun _ _ => rfl) ?_
    rcases am_if hM with ⟨c2, hM⟩ | ⟨c2, hM⟩
    · refine am_ev.kt 2 93 49 [.ref 113, am_ju, .int x2, .int x3, am_ju] [] (zl sn sx, xa c0 T D r B tl, M, q) c2 (fun _ _ => rfl) ?_
      cases hM
      cases hx
      exact am_ev.kf 2 (fun _ _ => rfl)
    · refine am_ev.ke 2 93 49 [.ref 113, am_ju, .int x2, .int x3, am_ju] [] (zl sn sx, xa c0 T D r B tl, M, q) c2 (fun _ _ => rfl) ?_
      obtain ⟨rr, hc, hM⟩ := am_bind hM
      obtain ⟨r2, rfl⟩ : ∃ z, z = rr := ⟨_, rfl⟩
      refine am_ev.kg 4 (pc' := 57) (lv' := [.ref 113, am_ju, .int x2, .int x3, am_ju]) (st' := [.int r, .ref 102]) (h' := (zl sn sx, xa c0 T D r B tl, M, q)) (fun _ _ => rfl) ?_
      refine am_ev.call rfl rfl rfl ((s_Text_at hc).mono (by decide)) ?_
      show am_ev _ k_Reader_readNumber (60, [.ref 113, am_ju, .int x2, .int x3, am_ju], [.int r2], (zl sn sx, xa c0 T D r B tl, M, q)) oo
      rcases am_if hM with ⟨c3, hM⟩ | ⟨c3, hM⟩
      · refine am_ev.kt 5 87 70 [.ref 113, am_ju, .int x2, .int x3, .int (r2 - (48 : Int32))] [] (zl sn sx, xa c0 T D r B tl, M, q) c3 (fun _ _ => rfl) ?_
        refine am_ev.wk (lv' := [.ref 113, am_ju, .int x2, .int x3, am_ju]) (am_lc (Or.inr rfl) (am_lc (Or.inr rfl) (am_lc (Or.inr rfl) (am_lc (Or.inr rfl) (am_lc (Or.inl rfl) am_ln))))) ?_
        exact sj_Reader_readNumber_87 hx hg hM
      · refine am_ev.ke 5 87 70 [.ref 113, am_ju, .int x2, .int x3, .int (r2 - (48 : Int32))] [] (zl sn sx, xa c0 T D r B tl, M, q) c3 (fun _ _ => rfl) ?_
        rcases am_if hM with ⟨c4, hM⟩ | ⟨c4, hM⟩
        · refine am_ev.kt 3 87 77 [.ref 113, am_ju, .int x2, .int x3, .int (r2 - (48 : Int32))] [] (zl sn sx, xa c0 T D r B tl, M, q) c4 (fun _ _ => rfl) ?_
          refine am_ev.wk (lv' := [.ref 113, am_ju, .int x2, .int x3, am_ju]) (am_lc (Or.inr rfl) (am_lc (Or.inr rfl) (am_lc (Or.inr rfl) (am_lc (Or.inr rfl) (am_lc (Or.inl rfl) am_ln))))) ?_
          exact sj_Reader_readNumber_87 hx hg hM
        · refine am_ev.ke 3 87 77 [.ref 113, am_ju, .int x2, .int x3, .int (r2 - (48 : Int32))] [] (zl sn sx, xa c0 T D r B tl, M, q) c4 (fun _ _ => rfl) ?_
          refine am_ev.kg 6 (pc' := 87) (lv' := [.ref 113, am_ju, .int x2, .int x3, .int (r2 - (48 : Int32))]) (st' := []) (h' := (zl sn sx, xa c0 T D (r + (1 : Int32)) B tl, M, q)) (fun _ _ => rfl) ?_
          refine am_ev.wk (lv' := [.ref 113, am_ju, .int x2, .int x3, am_ju]) (am_lc (Or.inr rfl) (am_lc (Or.inr rfl) (am_lc (Or.inr rfl) (am_lc (Or.inr rfl) (am_lc (Or.inl rfl) am_ln))))) ?_
          exact sj_Reader_readNumber_87 hx hg hM
theorem sl_Reader_readNumber_40 {fu : Nat} {sn : Nat} {sx : Nat → Int32} {M : List am_C} {q : Nat × Nat} {c0 : am_C} {tl : List am_C} {T : TxT} {D : BdT} {B : BdT} {x2 : Int32} {oo : am_O} {e : Int32 × RdT} (hx : x_Reader_readNumber_40 sn sx M q c0 tl T D B x2 oo e) : ∀ (n : Nat) (x3 : Int32) (r : RdT), l_Reader_readNumber_40 fu T x2 n x3 r = some e → am_ev 2 k_Reader_readNumber (40, [.ref 113, am_ju, .int x2, .int x3, am_ju], [], (zl sn sx, xa c0 T D r B tl, M, q)) oo
  | 0, _, _, hM => by have h : (none : Option (Int32 × RdT)) = some e := hM; cases h
  | n + 1, _, _, hM => sb_Reader_readNumber_40 hx (fun _ _ hM => sl_Reader_readNumber_40 hx n _ _ hM) hM
theorem se_Reader_readNumber {fu : Nat} {sn : Nat} {sx : Nat → Int32} {M : List am_C} {q : Nat × Nat} {c0 : am_C} {tl : List am_C} {T : TxT} {D : BdT} {r : RdT} {B : BdT} {x1 : Int32} {oo : am_O} {e : Int32 × RdT} (hx : y_Reader_readNumber sn sx M q c0 tl T D B oo e) (hM : f_Reader_readNumber fu x1 T r = some e) : am_ev 2 k_Reader_readNumber (0, [.ref 113, .int x1, am_ju, am_ju, am_ju], [], (zl sn sx, xa c0 T D r B tl, M, q)) oo := by
  unfold f_Reader_readNumber at hM
  obtain ⟨rr, hc, hM⟩ := am_bind hM
  obtain ⟨r1, rfl⟩ : ∃ z, z = rr := ⟨_, rfl⟩
  refine am_ev.kg 4 (pc' := 8) (lv' := [.ref 113, .int x1, am_ju, am_ju, am_ju]) (st' := [.int r, .ref 102]) (h' := (zl sn sx, xa c0 T D r B tl, M, q)) (fun _ _ => rfl) ?_
  refine am_ev.call rfl rfl rfl ((s_Text_at hc).mono (by decide)) ?_
  show am_ev _ k_Reader_readNumber (11, [.ref 113, .int x1, am_ju, am_ju, am_ju], [.int r1], (zl sn sx, xa c0 T D r B tl, M, q)) oo
  rcases am_if hM with ⟨c5, hM⟩ | ⟨c5, hM⟩
  · refine am_ev.kt 6 26 20 [.ref 113, .int x1, .int (r1 - (48 : Int32)), am_ju, am_ju] [] (zl sn sx, xa c0 T D r B tl, M, q) c5 (fun _ _ => rfl) ?_
    cases hM
    cases hx
    exact am_ev.kf 2 (fun _ _ => rfl)
  · refine am_ev.ke 6 26 20 [.ref 113, .int x1, .int (r1 - (48 : Int32)), am_ju, am_ju] [] (zl sn sx, xa c0 T D r B tl, M, q) c5 (fun _ _ => rfl) ?_
    rcases am_if hM with ⟨c6, hM⟩ | ⟨c6, hM⟩
    · refine am_ev.kt 3 28 26 [.ref 113, .int x1, .int (r1 - (48 : Int32)), am_ju, am_ju] [] (zl sn sx, xa c0 T D r B tl, M, q) c6 (fun _ _ => rfl) ?_
      refine am_ev.kg 8 (pc' := 40) (lv' := [.ref 113, .int x1, .int (r1 - (48 : Int32)), .int (0 : Int32), am_ju]) (st' := []) (h' := (zl sn sx, xa c0 T D (r + (1 : Int32)) B tl, M, q)) (fun _ _ => rfl) ?_
      refine am_ev.wk (lv' := [.ref 113, am_ju, .int (r1 - (48 : Int32)), .int (0 : Int32), am_ju]) (am_lc (Or.inr rfl) (am_lc (Or.inl rfl) (am_lc (Or.inr rfl) (am_lc (Or.inr rfl) (am_lc (Or.inr rfl) am_ln))))) ?_
      obtain ⟨ov, or⟩ := e
      refine sl_Reader_readNumber_40 ?_ _ _ _ hM
      exact hx
    · refine am_ev.ke 3 28 26 [.ref 113, .int x1, .int (r1 - (48 : Int32)), am_ju, am_ju] [] (zl sn sx, xa c0 T D r B tl, M, q) c6 (fun _ _ => rfl) ?_
      cases hM
      cases hx
      exact am_ev.kf 2 (fun _ _ => rfl)
theorem s_Reader_readNumber {fu : Nat} {sn : Nat} {sx : Nat → Int32} {M : List am_C} {q : Nat × Nat} {c0 : am_C} {tl : List am_C} {T : TxT} {D : BdT} {r : RdT} {B : BdT} {x1 : Int32} {ov : Int32} {or : RdT} (hM : f_Reader_readNumber fu x1 T r = some (ov, or)) : am_cv 3 k_Reader_readNumber [.ref 113, .int x1] (zl sn sx, xa c0 T D r B tl, M, q) (.inl (some (.int ov)), (zl sn sx, xa c0 T D or B tl, M, q)) := am_cv.of rfl (se_Reader_readNumber (e := (ov, or)) (show y_Reader_readNumber sn sx M q c0 tl T D B _ (ov, or) from rfl) hM)
def y_Reader_isWell (sn : Nat) (sx : Nat → Int32) (M : List am_C) (q : Nat × Nat) (c0 : am_C) (tl : List am_C) (T : TxT) (B : BdT) (oo : am_O) : Int32 × BdT × RdT → Prop
  | (ov, oD, or) => oo = (.inl (some (.int ov)), (zl sn sx, xa c0 T oD or B tl, M, q))
theorem se_Reader_isWell {fu : Nat} {sn : Nat} {sx : Nat → Int32} {M : List am_C} {q : Nat × Nat} {c0 : am_C} {tl : List am_C} {T : TxT} {D : BdT} {r : RdT} {B : BdT} {oo : am_O} {e : Int32 × BdT × RdT} (hx : y_Reader_isWell sn sx M q c0 tl T B oo e) (hM : f_Reader_isWell fu T D r = some e) : am_ev 4 k_Reader_isWell (0, [.ref 113], [], (zl sn sx, xa c0 T D r B tl, M, q)) oo := by
  unfold f_Reader_isWell at hM
  obtain ⟨rr, hc, hM⟩ := am_bind hM
  obtain ⟨r1, dg2, rg3⟩ := rr
  refine am_ev.kg 1 (pc' := 1) (lv' := [.ref 113]) (st' := [.ref 113]) (h' := (zl sn sx, xa c0 T D r B tl, M, q)) (fun _ _ => rfl) ?_
  refine am_ev.call rfl rfl rfl ((s_Reader_readMen hc).mono (by decide)) ?_
  show am_ev _ k_Reader_isWell (4, [.ref 113], [.int r1], (zl sn sx, xa c0 T dg2 rg3 B tl, M, q)) oo
  rcases am_if hM with ⟨c1, hM⟩ | ⟨c1, hM⟩
  · refine am_ev.kt 1 101 7 [.ref 113] [] (zl sn sx, xa c0 T dg2 rg3 B tl, M, q) c1 (fun _ _ => rfl) ?_
    cases hM
    cases hx
    exact am_ev.kf 2 (fun _ _ => rfl)
  · refine am_ev.ke 1 101 7 [.ref 113] [] (zl sn sx, xa c0 T dg2 rg3 B tl, M, q) c1 (fun _ _ => rfl) ?_
    obtain ⟨rr, hc, hM⟩ := am_bind hM
    obtain ⟨r4, rg5⟩ := rr
    refine am_ev.kg 2 (pc' := 10) (lv' := [.ref 113]) (st' := [.int (32 : Int32), .ref 113]) (h' := (zl sn sx, xa c0 T dg2 rg3 B tl, M, q)) (fun _ _ => rfl) ?_
    refine am_ev.call rfl rfl rfl ((s_Reader_take hc).mono (by decide)) ?_
    show am_ev _ k_Reader_isWell (13, [.ref 113], [.int r4], (zl sn sx, xa c0 T dg2 rg5 B tl, M, q)) oo
    rcases am_if hM with ⟨c2, hM⟩ | ⟨c2, hM⟩
    · refine am_ev.kt 1 101 16 [.ref 113] [] (zl sn sx, xa c0 T dg2 rg5 B tl, M, q) c2 (fun _ _ => rfl) ?_
      cases hM
      cases hx
      exact am_ev.kf 2 (fun _ _ => rfl)
    · refine am_ev.ke 1 101 16 [.ref 113] [] (zl sn sx, xa c0 T dg2 rg5 B tl, M, q) c2 (fun _ _ => rfl) ?_
      obtain ⟨rr, hc, hM⟩ := am_bind hM
      obtain ⟨r6, dg7, rg8⟩ := rr
      refine am_ev.kg 1 (pc' := 17) (lv' := [.ref 113]) (st' := [.ref 113]) (h' := (zl sn sx, xa c0 T dg2 rg5 B tl, M, q)) (fun _ _ => rfl) ?_
      refine am_ev.call rfl rfl rfl ((s_Reader_readSide hc).mono (by decide)) ?_
      show am_ev _ k_Reader_isWell (20, [.ref 113], [.int r6], (zl sn sx, xa c0 T dg7 rg8 B tl, M, q)) oo
      rcases am_if hM with ⟨c3, hM⟩ | ⟨c3, hM⟩
      · refine am_ev.kt 1 101 23 [.ref 113] [] (zl sn sx, xa c0 T dg7 rg8 B tl, M, q) c3 (fun _ _ => rfl) ?_
        cases hM
        cases hx
        exact am_ev.kf 2 (fun _ _ => rfl)
      · refine am_ev.ke 1 101 23 [.ref 113] [] (zl sn sx, xa c0 T dg7 rg8 B tl, M, q) c3 (fun _ _ => rfl) ?_
        obtain ⟨rr, hc, hM⟩ := am_bind hM
        obtain ⟨r9, rg10⟩ := rr
        refine am_ev.kg 2 (pc' := 26) (lv' := [.ref 113]) (st' := [.int (32 : Int32), .ref 113]) (h' := (zl sn sx, xa c0 T dg7 rg8 B tl, M, q)) (fun _ _ => rfl) ?_
        refine am_ev.call rfl rfl rfl ((s_Reader_take hc).mono (by decide)) ?_
        show am_ev _ k_Reader_isWell (29, [.ref 113], [.int r9], (zl sn sx, xa c0 T dg7 rg10 B tl, M, q)) oo
        rcases am_if hM with ⟨c4, hM⟩ | ⟨c4, hM⟩
        · refine am_ev.kt 1 101 32 [.ref 113] [] (zl sn sx, xa c0 T dg7 rg10 B tl, M, q) c4 (fun _ _ => rfl) ?_
          cases hM
          cases hx
          exact am_ev.kf 2 (fun _ _ => rfl)
        · refine am_ev.ke 1 101 32 [.ref 113] [] (zl sn sx, xa c0 T dg7 rg10 B tl, M, q) c4 (fun _ _ => rfl) ?_
          obtain ⟨rr, hc, hM⟩ := am_bind hM
          obtain ⟨r11, dg12, rg13⟩ := rr
          refine am_ev.kg 1 (pc' := 33) (lv' := [.ref 113]) (st' := [.ref 113]) (h' := (zl sn sx, xa c0 T dg7 rg10 B tl, M, q)) (fun _ _ => rfl) ?_
          refine am_ev.call rfl rfl rfl ((s_Reader_readRights hc).mono (by decide)) ?_
          show am_ev _ k_Reader_isWell (36, [.ref 113], [.int r11], (zl sn sx, xa c0 T dg12 rg13 B tl, M, q)) oo
          rcases am_if hM with ⟨c5, hM⟩ | ⟨c5, hM⟩
          · refine am_ev.kt 1 101 39 [.ref 113] [] (zl sn sx, xa c0 T dg12 rg13 B tl, M, q) c5 (fun _ _ => rfl) ?_
            cases hM
            cases hx
            exact am_ev.kf 2 (fun _ _ => rfl)
          · refine am_ev.ke 1 101 39 [.ref 113] [] (zl sn sx, xa c0 T dg12 rg13 B tl, M, q) c5 (fun _ _ => rfl) ?_
            obtain ⟨rr, hc, hM⟩ := am_bind hM
            obtain ⟨r14, rg15⟩ := rr
            refine am_ev.kg 2 (pc' := 42) (lv' := [.ref 113]) (st' := [.int (32 : Int32), .ref 113]) (h' := (zl sn sx, xa c0 T dg12 rg13 B tl, M, q)) (fun _ _ => rfl) ?_
            refine am_ev.call rfl rfl rfl ((s_Reader_take hc).mono (by decide)) ?_
            show am_ev _ k_Reader_isWell (45, [.ref 113], [.int r14], (zl sn sx, xa c0 T dg12 rg15 B tl, M, q)) oo
            rcases am_if hM with ⟨c6, hM⟩ | ⟨c6, hM⟩
            · refine am_ev.kt 1 101 48 [.ref 113] [] (zl sn sx, xa c0 T dg12 rg15 B tl, M, q) c6 (fun _ _ => rfl) ?_
              cases hM
              cases hx
              exact am_ev.kf 2 (fun _ _ => rfl)
            · refine am_ev.ke 1 101 48 [.ref 113] [] (zl sn sx, xa c0 T dg12 rg15 B tl, M, q) c6 (fun _ _ => rfl) ?_
              obtain ⟨rr, hc, hM⟩ := am_bind hM
              obtain ⟨r16, dg17, rg18⟩ := rr
              refine am_ev.kg 1 (pc' := 49) (lv' := [.ref 113]) (st' := [.ref 113]) (h' := (zl sn sx, xa c0 T dg12 rg15 B tl, M, q)) (fun _ _ => rfl) ?_
              refine am_ev.call rfl rfl rfl ((s_Reader_readPassed hc).mono (by decide)) ?_
              show am_ev _ k_Reader_isWell (52, [.ref 113], [.int r16], (zl sn sx, xa c0 T dg17 rg18 B tl, M, q)) oo
              rcases am_if hM with ⟨c7, hM⟩ | ⟨c7, hM⟩
              · refine am_ev.kt 1 101 55 [.ref 113] [] (zl sn sx, xa c0 T dg17 rg18 B tl, M, q) c7 (fun _ _ => rfl) ?_
                cases hM
                cases hx
                exact am_ev.kf 2 (fun _ _ => rfl)
              · refine am_ev.ke 1 101 55 [.ref 113] [] (zl sn sx, xa c0 T dg17 rg18 B tl, M, q) c7 (fun _ _ => rfl) ?_
                obtain ⟨rr, hc, hM⟩ := am_bind hM
                obtain ⟨r19, rg20⟩ := rr
                refine am_ev.kg 2 (pc' := 58) (lv' := [.ref 113]) (st' := [.int (32 : Int32), .ref 113]) (h' := (zl sn sx, xa c0 T dg17 rg18 B tl, M, q)) (fun _ _ => rfl) ?_
                refine am_ev.call rfl rfl rfl ((s_Reader_take hc).mono (by decide)) ?_
                show am_ev _ k_Reader_isWell (61, [.ref 113], [.int r19], (zl sn sx, xa c0 T dg17 rg20 B tl, M, q)) oo
                rcases am_if hM with ⟨c8, hM⟩ | ⟨c8, hM⟩
                · refine am_ev.kt 1 101 64 [.ref 113] [] (zl sn sx, xa c0 T dg17 rg20 B tl, M, q) c8 (fun _ _ => rfl) ?_
                  cases hM
                  cases hx
                  exact am_ev.kf 2 (fun _ _ => rfl)
                · refine am_ev.ke 1 101 64 [.ref 113] [] (zl sn sx, xa c0 T dg17 rg20 B tl, M, q) c8 (fun _ _ => rfl) ?_
                  obtain ⟨rr, hc, hM⟩ := am_bind hM
                  obtain ⟨r21, rg22⟩ := rr
                  refine am_ev.kg 2 (pc' := 66) (lv' := [.ref 113]) (st' := [.int (0 : Int32), .ref 113]) (h' := (zl sn sx, xa c0 T dg17 rg20 B tl, M, q)) (fun _ _ => rfl) ?_
                  refine am_ev.call rfl rfl rfl ((s_Reader_readNumber hc).mono (by decide)) ?_
                  show am_ev _ k_Reader_isWell (69, [.ref 113], [.int r21], (zl sn sx, xa c0 T dg17 rg22 B tl, M, q)) oo
                  rcases am_if hM with ⟨c9, hM⟩ | ⟨c9, hM⟩
                  · refine am_ev.kt 1 101 72 [.ref 113] [] (zl sn sx, xa c0 T dg17 rg22 B tl, M, q) c9 (fun _ _ => rfl) ?_
                    cases hM
                    cases hx
                    exact am_ev.kf 2 (fun _ _ => rfl)
                  · refine am_ev.ke 1 101 72 [.ref 113] [] (zl sn sx, xa c0 T dg17 rg22 B tl, M, q) c9 (fun _ _ => rfl) ?_
                    obtain ⟨rr, hc, hM⟩ := am_bind hM
                    obtain ⟨r23, rg24⟩ := rr
                    refine am_ev.kg 2 (pc' := 75) (lv' := [.ref 113]) (st' := [.int (32 : Int32), .ref 113]) (h' := (zl sn sx, xa c0 T dg17 rg22 B tl, M, q)) (fun _ _ => rfl) ?_
                    refine am_ev.call rfl rfl rfl ((s_Reader_take hc).mono (by decide)) ?_
                    show am_ev _ k_Reader_isWell (78, [.ref 113], [.int r23], (zl sn sx, xa c0 T dg17 rg24 B tl, M, q)) oo
                    rcases am_if hM with ⟨c10, hM⟩ | ⟨c10, hM⟩
                    · refine am_ev.kt 1 101 81 [.ref 113] [] (zl sn sx, xa c0 T dg17 rg24 B tl, M, q) c10 (fun _ _ => rfl) ?_
                      cases hM
                      cases hx
                      exact am_ev.kf 2 (fun _ _ => rfl)
                    · refine am_ev.ke 1 101 81 [.ref 113] [] (zl sn sx, xa c0 T dg17 rg24 B tl, M, q) c10 (fun _ _ => rfl) ?_
                      obtain ⟨rr, hc, hM⟩ := am_bind hM
                      obtain ⟨r25, rg26⟩ := rr
                      refine am_ev.kg 2 (pc' := 83) (lv' := [.ref 113]) (st' := [.int (1 : Int32), .ref 113]) (h' := (zl sn sx, xa c0 T dg17 rg24 B tl, M, q)) (fun _ _ => rfl) ?_
                      refine am_ev.call rfl rfl rfl ((s_Reader_readNumber hc).mono (by decide)) ?_
                      show am_ev _ k_Reader_isWell (86, [.ref 113], [.int r25], (zl sn sx, xa c0 T dg17 rg26 B tl, M, q)) oo
                      rcases am_if hM with ⟨c11, hM⟩ | ⟨c11, hM⟩
                      · refine am_ev.kt 1 101 89 [.ref 113] [] (zl sn sx, xa c0 T dg17 rg26 B tl, M, q) c11 (fun _ _ => rfl) ?_
                        cases hM
                        cases hx
                        exact am_ev.kf 2 (fun _ _ => rfl)
                      · refine am_ev.ke 1 101 89 [.ref 113] [] (zl sn sx, xa c0 T dg17 rg26 B tl, M, q) c11 (fun _ _ => rfl) ?_
                        obtain ⟨rr, hc, hM⟩ := am_bind hM
                        obtain ⟨r27, rg28⟩ := rr
                        refine am_ev.kg 2 (pc' := 91) (lv' := [.ref 113]) (st' := [.int (0 : Int32), .ref 113]) (h' := (zl sn sx, xa c0 T dg17 rg26 B tl, M, q)) (fun _ _ => rfl) ?_
                        refine am_ev.call rfl rfl rfl ((s_Reader_take hc).mono (by decide)) ?_
                        show am_ev _ k_Reader_isWell (94, [.ref 113], [.int r27], (zl sn sx, xa c0 T dg17 rg28 B tl, M, q)) oo
                        rcases am_if hM with ⟨c12, hM⟩ | ⟨c12, hM⟩
                        · refine am_ev.kt 1 101 97 [.ref 113] [] (zl sn sx, xa c0 T dg17 rg28 B tl, M, q) c12 (fun _ _ => rfl) ?_
                          cases hM
                          cases hx
                          exact am_ev.kf 2 (fun _ _ => rfl)
                        · refine am_ev.ke 1 101 97 [.ref 113] [] (zl sn sx, xa c0 T dg17 rg28 B tl, M, q) c12 (fun _ _ => rfl) ?_
                          cases hM
                          cases hx
                          exact am_ev.kf 3 (fun _ _ => rfl)
theorem s_Reader_isWell {fu : Nat} {sn : Nat} {sx : Nat → Int32} {M : List am_C} {q : Nat × Nat} {c0 : am_C} {tl : List am_C} {T : TxT} {D : BdT} {r : RdT} {B : BdT} {ov : Int32} {oD : BdT} {or : RdT} (hM : f_Reader_isWell fu T D r = some (ov, oD, or)) : am_cv 5 k_Reader_isWell [.ref 113] (zl sn sx, xa c0 T D r B tl, M, q) (.inl (some (.int ov)), (zl sn sx, xa c0 T oD or B tl, M, q)) := am_cv.of rfl (se_Reader_isWell (e := (ov, oD, or)) (show y_Reader_isWell sn sx M q c0 tl T B _ (ov, oD, or) from rfl) hM)
def y_Reader_hasTwoKings (sn : Nat) (sx : Nat → Int32) (M : List am_C) (q : Nat × Nat) (c0 : am_C) (tl : List am_C) (T : TxT) (r : RdT) (B : BdT) (oo : am_O) : Int32 × BdT → Prop
  | (ov, oD) => oo = (.inl (some (.int ov)), (zl sn sx, xa c0 T oD r B tl, M, q))
def x_Reader_hasTwoKings_6 (sn : Nat) (sx : Nat → Int32) (M : List am_C) (q : Nat × Nat) (c0 : am_C) (tl : List am_C) (T : TxT) (r : RdT) (B : BdT) (oo : am_O) : (Int32 × Int32 × BdT) → Prop
  | (x1, x2, D) => am_ev 1 k_Reader_hasTwoKings (75, [am_ju, .int x1, .int x2, am_ju], [], (zl sn sx, xa c0 T D r B tl, M, q)) oo
theorem sj_Reader_hasTwoKings_75 {fu : Nat} {sn : Nat} {sx : Nat → Int32} {M : List am_C} {q : Nat × Nat} {c0 : am_C} {tl : List am_C} {T : TxT} {D : BdT} {r : RdT} {B : BdT} {x1 : Int32} {x2 : Int32} {oo : am_O} {e : Int32 × BdT} (hx : y_Reader_hasTwoKings sn sx M q c0 tl T r B oo e) (hM : j_Reader_hasTwoKings_75 fu D x1 x2 = some e) : am_ev 1 k_Reader_hasTwoKings (75, [am_ju, .int x1, .int x2, am_ju], [], (zl sn sx, xa c0 T D r B tl, M, q)) oo := by
  unfold j_Reader_hasTwoKings_75 at hM
  rcases am_if hM with ⟨c1, hM⟩ | ⟨c1, hM⟩
  · refine am_ev.kt 3 89 80 [am_ju, .int x1, .int x2, am_ju] [] (zl sn sx, xa c0 T D r B tl, M, q) c1 (fun _ _ => rfl) ?_
    cases hM
    cases hx
    exact am_ev.kf 2 (fun _ _ => rfl)
  · refine am_ev.ke 3 89 80 [am_ju, .int x1, .int x2, am_ju] [] (zl sn sx, xa c0 T D r B tl, M, q) c1 (fun _ _ => rfl) ?_
    rcases am_if hM with ⟨c2, hM⟩ | ⟨c2, hM⟩
    · refine am_ev.kt 3 89 85 [am_ju, .int x1, .int x2, am_ju] [] (zl sn sx, xa c0 T D r B tl, M, q) c2 (fun _ _ => rfl) ?_
      cases hM
      cases hx
      exact am_ev.kf 2 (fun _ _ => rfl)
    · refine am_ev.ke 3 89 85 [am_ju, .int x1, .int x2, am_ju] [] (zl sn sx, xa c0 T D r B tl, M, q) c2 (fun _ _ => rfl) ?_
      cases hM
      cases hx
      exact am_ev.kf 3 (fun _ _ => rfl)
theorem sj_Reader_hasTwoKings_69 {fu : Nat} {sn : Nat} {sx : Nat → Int32} {M : List am_C} {q : Nat × Nat} {c0 : am_C} {tl : List am_C} {T : TxT} {D : BdT} {r : RdT} {B : BdT} {x1 : Int32} {x2 : Int32} {x3 : Int32} {oo : am_O} {e : (Int32 × Int32 × BdT)} {gg : Int32 → Int32 → Int32 → BdT → Option ((Int32 × Int32 × BdT))} (hx : x_Reader_hasTwoKings_6 sn sx M q c0 tl T r B oo e) (hg : ∀ (x1 : Int32) (x2 : Int32) (x3 : Int32) (D : BdT), gg x1 x2 x3 D = some e → am_ev 1 k_Reader_hasTwoKings (6, [.ref 113, .int x1, .int x2, .int x3], [], (zl sn sx, xa c0 T D r B tl, M, q)) oo) (hM : j_Reader_hasTwoKings_69 fu gg D x1 x2 x3 = some e) : am_ev 1 k_Reader_hasTwoKings (69, [.ref 113, .int x1, .int x2, .int x3], [], (zl sn sx, xa c0 T D r B tl, M, q)) oo := by
  unfold j_Reader_hasTwoKings_69 at hM
  refine am_ev.kg 2 (pc' := 6) (lv' := [.ref 113, .int x1, .int x2, .int (x3 + (1 : Int32))]) (st' := []) (h' := (zl sn sx, xa c0 T D r B tl, M, q)) (fun _ _ => rfl) ?_
  exact hg _ _ _ _ hM
theorem sb_Reader_hasTwoKings_6 {fu : Nat} {sn : Nat} {sx : Nat → Int32} {M : List am_C} {q : Nat × Nat} {c0 : am_C} {tl : List am_C} {T : TxT} {r : RdT} {B : BdT} {oo : am_O} {e : (Int32 × Int32 × BdT)} {gg : Int32 → Int32 → Int32 → BdT → Option ((Int32 × Int32 × BdT))} (hx : x_Reader_hasTwoKings_6 sn sx M q c0 tl T r B oo e) (hg : ∀ (x1 : Int32) (x2 : Int32) (x3 : Int32) (D : BdT), gg x1 x2 x3 D = some e → am_ev 1 k_Reader_hasTwoKings (6, [.ref 113, .int x1, .int x2, .int x3], [], (zl sn sx, xa c0 T D r B tl, M, q)) oo) {x1 : Int32} {x2 : Int32} {x3 : Int32} {D : BdT} (hM : b_Reader_hasTwoKings_6 fu gg x1 x2 x3 D = some e) : am_ev 1 k_Reader_hasTwoKings (6, [.ref 113, .int x1, .int x2, .int x3], [], (zl sn sx, xa c0 T D r B tl, M, q)) oo := by
  unfold b_Reader_hasTwoKings_6 at hM
  rcases am_if hM with ⟨c3, hM⟩ | ⟨c3, hM⟩
  · refine am_ev.kt 3 75 12 [.ref 113, .int x1, .int x2, .int x3] [] (zl sn sx, xa c0 T D r B tl, M, q) c3 (fun _ _ => rfl) ?_
    refine am_ev.wk (lv' := [am_ju, .int x1, .int x2, am_ju]) (am_lc (Or.inl rfl) (am_lc (Or.inr rfl) (am_lc (Or.inr rfl) (am_lc (Or.inl rfl) am_ln)))) ?_
    cases hM
    exact hx
  · refine am_ev.ke 3 75 12 [.ref 113, .int x1, .int x2, .int x3] [] (zl sn sx, xa c0 T D r B tl, M, q) c3 (fun _ _ => rfl) ?_
    obtain ⟨c4, hM⟩ := am_ifn hM
    refine am_ev.kc 5 21 [.ref 113, .int x1, .int x2, .int x3] [.int ((bd_men D) (x3).toNatClampNeg)] (zl sn sx, xa c0 T D r B tl, M, q) c4 (fun _ _ => rfl) ?_
    rcases am_if hM with ⟨c5, hM⟩ | ⟨c5, hM⟩
    · refine am_ev.kt 2 42 26 [.ref 113, .int x1, .int x2, .int x3] [] (zl sn sx, xa c0 T D r B tl, M, q) c5 (fun _ _ => rfl) ?_
      obtain ⟨c6, hM⟩ := am_ifn hM
      refine am_ev.kc 5 51 [.ref 113, .int x1, .int x2, .int x3] [.int ((bd_men D) (x3).toNatClampNeg)] (zl sn sx, xa c0 T D r B tl, M, q) c6 (fun _ _ => rfl) ?_
      rcases am_if hM with ⟨c7, hM⟩ | ⟨c7, hM⟩
      · refine am_ev.kt 2 69 56 [.ref 113, .int x1, .int x2, .int x3] [] (zl sn sx, xa c0 T D r B tl, M, q) c7 (fun _ _ => rfl) ?_
        exact sj_Reader_hasTwoKings_69 hx hg hM
      · refine am_ev.ke 2 69 56 [.ref 113, .int x1, .int x2, .int x3] [] (zl sn sx, xa c0 T D r B tl, M, q) c7 (fun _ _ => rfl) ?_
        obtain ⟨c8, hM⟩ := am_ifn hM
        refine am_ev.kc 6 66 [.ref 113, .int x1, .int x2, .int x3] [] (zl sn sx, xa c0 T ((bd_men D), (bd_held D), (upd (bd_kings D) ((1 : Int32)).toNatClampNeg x3), (bd_side D), (bd_rights D), (bd_passed D), (bd_depth D), (bd_made D), (bd_taken D), (bd_takenAt D), (bd_rightsBefore D), (bd_passedBefore D)) r B tl, M, q) c8 (fun _ _ => rfl) ?_
        refine am_ev.kg 1 (pc' := 69) (lv' := [.ref 113, .int x1, .int (x2 + (1 : Int32)), .int x3]) (st' := []) (h' := (zl sn sx, xa c0 T ((bd_men D), (bd_held D), (upd (bd_kings D) ((1 : Int32)).toNatClampNeg x3), (bd_side D), (bd_rights D), (bd_passed D), (bd_depth D), (bd_made D), (bd_taken D), (bd_takenAt D), (bd_rightsBefore D), (bd_passedBefore D)) r B tl, M, q)) (fun _ _ => rfl) ?_
        exact sj_Reader_hasTwoKings_69 hx hg hM
    · refine am_ev.ke 2 42 26 [.ref 113, .int x1, .int x2, .int x3] [] (zl sn sx, xa c0 T D r B tl, M, q) c5 (fun _ _ => rfl) ?_
      obtain ⟨c9, hM⟩ := am_ifn hM
      refine am_ev.kc 6 36 [.ref 113, .int x1, .int x2, .int x3] [] (zl sn sx, xa c0 T ((bd_men D), (bd_held D), (upd (bd_kings D) ((0 : Int32)).toNatClampNeg x3), (bd_side D), (bd_rights D), (bd_passed D), (bd_depth D), (bd_made D), (bd_taken D), (bd_takenAt D), (bd_rightsBefore D), (bd_passedBefore D)) r B tl, M, q) c9 (fun _ _ => rfl) ?_
      refine am_ev.kg 2 (pc' := 69) (lv' := [.ref 113, .int (x1 + (1 : Int32)), .int x2, .int x3]) (st' := []) (h' := (zl sn sx, xa c0 T ((bd_men D), (bd_held D), (upd (bd_kings D) ((0 : Int32)).toNatClampNeg x3), (bd_side D), (bd_rights D), (bd_passed D), (bd_depth D), (bd_made D), (bd_taken D), (bd_takenAt D), (bd_rightsBefore D), (bd_passedBefore D)) r B tl, M, q)) (fun _ _ => rfl) ?_
      exact sj_Reader_hasTwoKings_69 hx hg hM
theorem sl_Reader_hasTwoKings_6 {fu : Nat} {sn : Nat} {sx : Nat → Int32} {M : List am_C} {q : Nat × Nat} {c0 : am_C} {tl : List am_C} {T : TxT} {r : RdT} {B : BdT} {oo : am_O} {e : (Int32 × Int32 × BdT)} (hx : x_Reader_hasTwoKings_6 sn sx M q c0 tl T r B oo e) : ∀ (n : Nat) (x1 : Int32) (x2 : Int32) (x3 : Int32) (D : BdT), l_Reader_hasTwoKings_6 fu n x1 x2 x3 D = some e → am_ev 1 k_Reader_hasTwoKings (6, [.ref 113, .int x1, .int x2, .int x3], [], (zl sn sx, xa c0 T D r B tl, M, q)) oo
  | 0, _, _, _, _, hM => by have h : (none : Option ((Int32 × Int32 × BdT))) = some e := hM; cases h
  | n + 1, _, _, _, _, hM => sb_Reader_hasTwoKings_6 hx (fun _ _ _ _ hM => sl_Reader_hasTwoKings_6 hx n _ _ _ _ hM) hM
theorem se_Reader_hasTwoKings {fu : Nat} {sn : Nat} {sx : Nat → Int32} {M : List am_C} {q : Nat × Nat} {c0 : am_C} {tl : List am_C} {T : TxT} {D : BdT} {r : RdT} {B : BdT} {oo : am_O} {e : Int32 × BdT} (hx : y_Reader_hasTwoKings sn sx M q c0 tl T r B oo e) (hM : f_Reader_hasTwoKings fu D = some e) : am_ev 1 k_Reader_hasTwoKings (0, [.ref 113, am_ju, am_ju, am_ju], [], (zl sn sx, xa c0 T D r B tl, M, q)) oo := by
  unfold f_Reader_hasTwoKings at hM
  refine am_ev.kg 6 (pc' := 6) (lv' := [.ref 113, .int (0 : Int32), .int (0 : Int32), .int (0 : Int32)]) (st' := []) (h' := (zl sn sx, xa c0 T D r B tl, M, q)) (fun _ _ => rfl) ?_
  obtain ⟨z, hz, hM⟩ := am_bind hM
  obtain ⟨x1_1, x2_1, dz_1⟩ := z
  refine sl_Reader_hasTwoKings_6 ?_ _ _ _ _ _ hz
  show am_ev 1 k_Reader_hasTwoKings (75, [am_ju, .int x1_1, .int x2_1, am_ju], [], (zl sn sx, xa c0 T dz_1 r B tl, M, q)) oo
  exact sj_Reader_hasTwoKings_75 hx hM
theorem s_Reader_hasTwoKings {fu : Nat} {sn : Nat} {sx : Nat → Int32} {M : List am_C} {q : Nat × Nat} {c0 : am_C} {tl : List am_C} {T : TxT} {D : BdT} {r : RdT} {B : BdT} {ov : Int32} {oD : BdT} (hM : f_Reader_hasTwoKings fu D = some (ov, oD)) : am_cv 2 k_Reader_hasTwoKings [.ref 113] (zl sn sx, xa c0 T D r B tl, M, q) (.inl (some (.int ov)), (zl sn sx, xa c0 T oD r B tl, M, q)) := am_cv.of rfl (se_Reader_hasTwoKings (e := (ov, oD)) (show y_Reader_hasTwoKings sn sx M q c0 tl T r B _ (ov, oD) from rfl) hM)
def y_Reader_hasPawnAtEnd (sn : Nat) (sx : Nat → Int32) (M : List am_C) (q : Nat × Nat) (c0 : am_C) (tl : List am_C) (T : TxT) (D : BdT) (r : RdT) (B : BdT) (oo : am_O) : Int32 → Prop
  | ov => oo = (.inl (some (.int ov)), (zl sn sx, xa c0 T D r B tl, M, q))
def x_Reader_hasPawnAtEnd_2 (sn : Nat) (sx : Nat → Int32) (M : List am_C) (q : Nat × Nat) (c0 : am_C) (tl : List am_C) (T : TxT) (D : BdT) (r : RdT) (B : BdT) (oo : am_O) : Int32 → Prop
  | ov => oo = (.inl (some (.int ov)), (zl sn sx, xa c0 T D r B tl, M, q))
theorem sb_Reader_hasPawnAtEnd_2 {fu : Nat} {sn : Nat} {sx : Nat → Int32} {M : List am_C} {q : Nat × Nat} {c0 : am_C} {tl : List am_C} {T : TxT} {D : BdT} {r : RdT} {B : BdT} {oo : am_O} {e : Int32} {gg : Int32 → Option (Int32)} (hx : x_Reader_hasPawnAtEnd_2 sn sx M q c0 tl T D r B oo e) (hg : ∀ (x1 : Int32), gg x1 = some e → am_ev 1 k_Reader_hasPawnAtEnd (2, [.ref 113, .int x1], [], (zl sn sx, xa c0 T D r B tl, M, q)) oo) {x1 : Int32} (hM : b_Reader_hasPawnAtEnd_2 fu D gg x1 = some e) : am_ev 1 k_Reader_hasPawnAtEnd (2, [.ref 113, .int x1], [], (zl sn sx, xa c0 T D r B tl, M, q)) oo := by
  unfold b_Reader_hasPawnAtEnd_2 at hM
  rcases am_if hM with ⟨c1, hM⟩ | ⟨c1, hM⟩
  · refine am_ev.kt 3 51 8 [.ref 113, .int x1] [] (zl sn sx, xa c0 T D r B tl, M, q) c1 (fun _ _ => rfl) ?_
    cases hM
    cases hx
    exact am_ev.kf 2 (fun _ _ => rfl)
  · refine am_ev.ke 3 51 8 [.ref 113, .int x1] [] (zl sn sx, xa c0 T D r B tl, M, q) c1 (fun _ _ => rfl) ?_
    obtain ⟨c2, hM⟩ := am_ifn hM
    refine am_ev.kc 5 17 [.ref 113, .int x1] [.int ((bd_men D) (x1).toNatClampNeg)] (zl sn sx, xa c0 T D r B tl, M, q) c2 (fun _ _ => rfl) ?_
    rcases am_if hM with ⟨c3, hM⟩ | ⟨c3, hM⟩
    · refine am_ev.kt 4 43 24 [.ref 113, .int x1] [] (zl sn sx, xa c0 T D r B tl, M, q) c3 (fun _ _ => rfl) ?_
      cases hM
      cases hx
      exact am_ev.kf 2 (fun _ _ => rfl)
    · refine am_ev.ke 4 43 24 [.ref 113, .int x1] [] (zl sn sx, xa c0 T D r B tl, M, q) c3 (fun _ _ => rfl) ?_
      obtain ⟨c4, hM⟩ := am_ifn hM
      refine am_ev.kc 7 36 [.ref 113, .int x1] [.int ((bd_men D) ((x1 + (56 : Int32))).toNatClampNeg)] (zl sn sx, xa c0 T D r B tl, M, q) c4 (fun _ _ => rfl) ?_
      rcases am_if hM with ⟨c5, hM⟩ | ⟨c5, hM⟩
      · refine am_ev.kt 4 45 43 [.ref 113, .int x1] [] (zl sn sx, xa c0 T D r B tl, M, q) c5 (fun _ _ => rfl) ?_
        refine am_ev.kg 2 (pc' := 2) (lv' := [.ref 113, .int (x1 + (1 : Int32))]) (st' := []) (h' := (zl sn sx, xa c0 T D r B tl, M, q)) (fun _ _ => rfl) ?_
        exact hg _ hM
      · refine am_ev.ke 4 45 43 [.ref 113, .int x1] [] (zl sn sx, xa c0 T D r B tl, M, q) c5 (fun _ _ => rfl) ?_
        cases hM
        cases hx
        exact am_ev.kf 2 (fun _ _ => rfl)
theorem sl_Reader_hasPawnAtEnd_2 {fu : Nat} {sn : Nat} {sx : Nat → Int32} {M : List am_C} {q : Nat × Nat} {c0 : am_C} {tl : List am_C} {T : TxT} {D : BdT} {r : RdT} {B : BdT} {oo : am_O} {e : Int32} (hx : x_Reader_hasPawnAtEnd_2 sn sx M q c0 tl T D r B oo e) : ∀ (n : Nat) (x1 : Int32), l_Reader_hasPawnAtEnd_2 fu D n x1 = some e → am_ev 1 k_Reader_hasPawnAtEnd (2, [.ref 113, .int x1], [], (zl sn sx, xa c0 T D r B tl, M, q)) oo
  | 0, _, hM => by have h : (none : Option (Int32)) = some e := hM; cases h
  | n + 1, _, hM => sb_Reader_hasPawnAtEnd_2 hx (fun _ hM => sl_Reader_hasPawnAtEnd_2 hx n _ hM) hM
theorem se_Reader_hasPawnAtEnd {fu : Nat} {sn : Nat} {sx : Nat → Int32} {M : List am_C} {q : Nat × Nat} {c0 : am_C} {tl : List am_C} {T : TxT} {D : BdT} {r : RdT} {B : BdT} {oo : am_O} {e : Int32} (hx : y_Reader_hasPawnAtEnd sn sx M q c0 tl T D r B oo e) (hM : f_Reader_hasPawnAtEnd fu D = some e) : am_ev 1 k_Reader_hasPawnAtEnd (0, [.ref 113, am_ju], [], (zl sn sx, xa c0 T D r B tl, M, q)) oo := by
  unfold f_Reader_hasPawnAtEnd at hM
  refine am_ev.kg 2 (pc' := 2) (lv' := [.ref 113, .int (0 : Int32)]) (st' := []) (h' := (zl sn sx, xa c0 T D r B tl, M, q)) (fun _ _ => rfl) ?_
  refine sl_Reader_hasPawnAtEnd_2 ?_ _ _ hM
  exact hx
theorem s_Reader_hasPawnAtEnd {fu : Nat} {sn : Nat} {sx : Nat → Int32} {M : List am_C} {q : Nat × Nat} {c0 : am_C} {tl : List am_C} {T : TxT} {D : BdT} {r : RdT} {B : BdT} {ov : Int32} (hM : f_Reader_hasPawnAtEnd fu D = some ov) : am_cv 2 k_Reader_hasPawnAtEnd [.ref 113] (zl sn sx, xa c0 T D r B tl, M, q) (.inl (some (.int ov)), (zl sn sx, xa c0 T D r B tl, M, q)) := am_cv.of rfl (se_Reader_hasPawnAtEnd (e := ov) (show y_Reader_hasPawnAtEnd sn sx M q c0 tl T D r B _ ov from rfl) hM)
def y_Board_attacked_D (sn : Nat) (sx : Nat → Int32) (M : List am_C) (q : Nat × Nat) (c0 : am_C) (tl : List am_C) (T : TxT) (r : RdT) (B : BdT) (b : BdT) (oo : am_O) : Int32 → Prop
  | ov => oo = (.inl (some (.int ov)), (zl sn sx, xa c0 T b r B tl, M, q))
def x_Board_attacked_D_75 (sn : Nat) (sx : Nat → Int32) (M : List am_C) (q : Nat × Nat) (c0 : am_C) (tl : List am_C) (T : TxT) (r : RdT) (B : BdT) (b : BdT) (x1 : Int32) (x2 : Int32) (x3 : Int32) (oo : am_O) : (Int32 × Int32) ⊕ (Unit) → Prop
  | (.inl (x5, x6)) => am_ev 1 k_Board_attacked (101, [.ref 104, .int x1, .int x2, .int x3, am_ju, .int x5, .int x6, am_ju], [], (zl sn sx, xa c0 T b r B tl, M, q)) oo
  | (.inr ()) => am_ev 1 k_Board_attacked (162, [.ref 104, .int x1, .int x2, .int x3, am_ju, am_ju, am_ju, am_ju], [], (zl sn sx, xa c0 T b r B tl, M, q)) oo
def x_Board_attacked_D_3 (sn : Nat) (sx : Nat → Int32) (M : List am_C) (q : Nat × Nat) (c0 : am_C) (tl : List am_C) (T : TxT) (r : RdT) (B : BdT) (b : BdT) (x1 : Int32) (x2 : Int32) (oo : am_O) : ((Unit)) ⊕ (Int32) → Prop
  | (.inl ()) => am_ev 1 k_Board_attacked (51, [.ref 104, .int x1, .int x2, am_ju, am_ju, am_ju, am_ju, am_ju], [], (zl sn sx, xa c0 T b r B tl, M, q)) oo
  | .inr ov => oo = (.inl (some (.int ov)), (zl sn sx, xa c0 T b r B tl, M, q))
def x_Board_attacked_D_53 (sn : Nat) (sx : Nat → Int32) (M : List am_C) (q : Nat × Nat) (c0 : am_C) (tl : List am_C) (T : TxT) (r : RdT) (B : BdT) (b : BdT) (x1 : Int32) (x2 : Int32) (oo : am_O) : Int32 → Prop
  | ov => oo = (.inl (some (.int ov)), (zl sn sx, xa c0 T b r B tl, M, q))
theorem sj_Board_attacked_D_45 {fu : Nat} {sn : Nat} {sx : Nat → Int32} {M : List am_C} {q : Nat × Nat} {c0 : am_C} {tl : List am_C} {T : TxT} {r : RdT} {B : BdT} {b : BdT} {x1 : Int32} {x2 : Int32} {x3 : Int32} {oo : am_O} {e : ((Unit)) ⊕ (Int32)} {gg : Int32 → Option (((Unit)) ⊕ (Int32))} (hx : x_Board_attacked_D_3 sn sx M q c0 tl T r B b x1 x2 oo e) (hg : ∀ (x3 : Int32), gg x3 = some e → am_ev 1 k_Board_attacked (3, [.ref 104, .int x1, .int x2, .int x3, am_ju, am_ju, am_ju, am_ju], [], (zl sn sx, xa c0 T b r B tl, M, q)) oo) (hM : j_Board_attacked_45 fu gg b x1 x2 x3 = some e) : am_ev 1 k_Board_attacked (45, [.ref 104, .int x1, .int x2, .int x3, am_ju, am_ju, am_ju, am_ju], [], (zl sn sx, xa c0 T b r B tl, M, q)) oo := by
  unfold j_Board_attacked_45 at hM
  refine am_ev.kg 2 (pc' := 3) (lv' := [.ref 104, .int x1, .int x2, .int (x3 + (1 : Int32)), am_ju, am_ju, am_ju, am_ju]) (st' := []) (h' := (zl sn sx, xa c0 T b r B tl, M, q)) (fun _ _ => rfl) ?_
  exact hg _ hM
theorem sb_Board_attacked_D_75 {fu : Nat} {sn : Nat} {sx : Nat → Int32} {M : List am_C} {q : Nat × Nat} {c0 : am_C} {tl : List am_C} {T : TxT} {r : RdT} {B : BdT} {b : BdT} {x1 : Int32} {x2 : Int32} {x3 : Int32} {oo : am_O} {e : (Int32 × Int32) ⊕ (Unit)} {gg : Int32 → Int32 → Option ((Int32 × Int32) ⊕ (Unit))} (hx : x_Board_attacked_D_75 sn sx M q c0 tl T r B b x1 x2 x3 oo e) (hg : ∀ (x4 : Int32) (x5 : Int32), gg x4 x5 = some e → am_ev 1 k_Board_attacked (75, [.ref 104, .int x1, .int x2, .int x3, .int x4, .int x5, am_ju, am_ju], [], (zl sn sx, xa c0 T b r B tl, M, q)) oo) {x4 : Int32} {x5 : Int32} (hM : b_Board_attacked_75 fu b x1 x2 x3 gg x4 x5 = some e) : am_ev 1 k_Board_attacked (75, [.ref 104, .int x1, .int x2, .int x3, .int x4, .int x5, am_ju, am_ju], [], (zl sn sx, xa c0 T b r B tl, M, q)) oo := by
  unfold b_Board_attacked_75 at hM
  rcases am_if hM with ⟨c1, hM⟩ | ⟨c1, hM⟩
  · refine am_ev.kt 3 162 82 [.ref 104, .int x1, .int x2, .int x3, .int x4, .int x5, am_ju, am_ju] [] (zl sn sx, xa c0 T b r B tl, M, q) c1 (fun _ _ => rfl) ?_
    refine am_ev.wk (lv' := [.ref 104, .int x1, .int x2, .int x3, am_ju, am_ju, am_ju, am_ju]) (am_lc (Or.inr rfl) (am_lc (Or.inr rfl) (am_lc (Or.inr rfl) (am_lc (Or.inr rfl) (am_lc (Or.inl rfl) (am_lc (Or.inl rfl) (am_lc (Or.inr rfl) (am_lc (Or.inr rfl) am_ln)))))))) ?_
    cases hM
    exact hx
  · refine am_ev.ke 3 162 82 [.ref 104, .int x1, .int x2, .int x3, .int x4, .int x5, am_ju, am_ju] [] (zl sn sx, xa c0 T b r B tl, M, q) c1 (fun _ _ => rfl) ?_
    rcases am_if hM with ⟨c2, hM⟩ | ⟨c2, hM⟩
    · refine am_ev.kt 2 162 87 [.ref 104, .int x1, .int x2, .int x3, .int x4, .int x5, am_ju, am_ju] [] (zl sn sx, xa c0 T b r B tl, M, q) c2 (fun _ _ => rfl) ?_
      refine am_ev.wk (lv' := [.ref 104, .int x1, .int x2, .int x3, am_ju, am_ju, am_ju, am_ju]) (am_lc (Or.inr rfl) (am_lc (Or.inr rfl) (am_lc (Or.inr rfl) (am_lc (Or.inr rfl) (am_lc (Or.inl rfl) (am_lc (Or.inl rfl) (am_lc (Or.inr rfl) (am_lc (Or.inr rfl) am_ln)))))))) ?_
      cases hM
      exact hx
    · refine am_ev.ke 2 162 87 [.ref 104, .int x1, .int x2, .int x3, .int x4, .int x5, am_ju, am_ju] [] (zl sn sx, xa c0 T b r B tl, M, q) c2 (fun _ _ => rfl) ?_
      obtain ⟨c3, hM⟩ := am_ifn hM
      refine am_ev.kc 4 94 [.ref 104, .int x1, .int x2, .int x3, .int x4, .int x5, am_ju, am_ju] [.int ((bd_men b) (x4).toNatClampNeg)] (zl sn sx, xa c0 T b r B tl, M, q) c3 (fun _ _ => rfl) ?_
      rcases am_if hM with ⟨c4, hM⟩ | ⟨c4, hM⟩
      · refine am_ev.kt 3 142 101 [.ref 104, .int x1, .int x2, .int x3, .int x4, .int x5, .int ((bd_men b) (x4).toNatClampNeg), am_ju] [] (zl sn sx, xa c0 T b r B tl, M, q) c4 (fun _ _ => rfl) ?_
        obtain ⟨c5, hM⟩ := am_ifn hM
        refine am_ev.kc 8 154 [.ref 104, .int x1, .int x2, .int x3, .int x4, .int x5, .int ((bd_men b) (x4).toNatClampNeg), am_ju] [.int (tb_next ((((64 : Int32) * x3) + x4)).toNatClampNeg)] (zl sn sx, xa c0 T b r B tl, M, q) c5 (fun _ _ => rfl) ?_
        refine am_ev.kg 3 (pc' := 75) (lv' := [.ref 104, .int x1, .int x2, .int x3, .int (tb_next ((((64 : Int32) * x3) + x4)).toNatClampNeg), .int (x5 + (1 : Int32)), .int ((bd_men b) (x4).toNatClampNeg), am_ju]) (st' := []) (h' := (zl sn sx, xa c0 T b r B tl, M, q)) (fun _ _ => rfl) ?_
        refine am_ev.wk (lv' := [.ref 104, .int x1, .int x2, .int x3, .int (tb_next ((((64 : Int32) * x3) + x4)).toNatClampNeg), .int (x5 + (1 : Int32)), am_ju, am_ju]) (am_lc (Or.inr rfl) (am_lc (Or.inr rfl) (am_lc (Or.inr rfl) (am_lc (Or.inr rfl) (am_lc (Or.inr rfl) (am_lc (Or.inr rfl) (am_lc (Or.inl rfl) (am_lc (Or.inr rfl) am_ln)))))))) ?_
        exact hg _ _ hM
      · refine am_ev.ke 3 142 101 [.ref 104, .int x1, .int x2, .int x3, .int x4, .int x5, .int ((bd_men b) (x4).toNatClampNeg), am_ju] [] (zl sn sx, xa c0 T b r B tl, M, q) c4 (fun _ _ => rfl) ?_
        refine am_ev.wk (lv' := [.ref 104, .int x1, .int x2, .int x3, am_ju, .int x5, .int ((bd_men b) (x4).toNatClampNeg), am_ju]) (am_lc (Or.inr rfl) (am_lc (Or.inr rfl) (am_lc (Or.inr rfl) (am_lc (Or.inr rfl) (am_lc (Or.inl rfl) (am_lc (Or.inr rfl) (am_lc (Or.inr rfl) (am_lc (Or.inr rfl) am_ln)))))))) ?_
        cases hM
        exact hx
theorem sl_Board_attacked_D_75 {fu : Nat} {sn : Nat} {sx : Nat → Int32} {M : List am_C} {q : Nat × Nat} {c0 : am_C} {tl : List am_C} {T : TxT} {r : RdT} {B : BdT} {b : BdT} {x1 : Int32} {x2 : Int32} {x3 : Int32} {oo : am_O} {e : (Int32 × Int32) ⊕ (Unit)} (hx : x_Board_attacked_D_75 sn sx M q c0 tl T r B b x1 x2 x3 oo e) : ∀ (n : Nat) (x4 : Int32) (x5 : Int32), l_Board_attacked_75 fu b x1 x2 x3 n x4 x5 = some e → am_ev 1 k_Board_attacked (75, [.ref 104, .int x1, .int x2, .int x3, .int x4, .int x5, am_ju, am_ju], [], (zl sn sx, xa c0 T b r B tl, M, q)) oo
  | 0, _, _, hM => by have h : (none : Option ((Int32 × Int32) ⊕ (Unit))) = some e := hM; cases h
  | n + 1, _, _, hM => sb_Board_attacked_D_75 hx (fun _ _ hM => sl_Board_attacked_D_75 hx n _ _ hM) hM
theorem sj_Board_attacked_D_162 {fu : Nat} {sn : Nat} {sx : Nat → Int32} {M : List am_C} {q : Nat × Nat} {c0 : am_C} {tl : List am_C} {T : TxT} {r : RdT} {B : BdT} {b : BdT} {x1 : Int32} {x2 : Int32} {x3 : Int32} {oo : am_O} {e : Int32} {gg : Int32 → Option (Int32)} (hx : x_Board_attacked_D_53 sn sx M q c0 tl T r B b x1 x2 oo e) (hg : ∀ (x3 : Int32), gg x3 = some e → am_ev 1 k_Board_attacked (53, [.ref 104, .int x1, .int x2, .int x3, am_ju, am_ju, am_ju, am_ju], [], (zl sn sx, xa c0 T b r B tl, M, q)) oo) (hM : j_Board_attacked_162 fu gg b x1 x2 x3 = some e) : am_ev 1 k_Board_attacked (162, [.ref 104, .int x1, .int x2, .int x3, am_ju, am_ju, am_ju, am_ju], [], (zl sn sx, xa c0 T b r B tl, M, q)) oo := by
  unfold j_Board_attacked_162 at hM
  refine am_ev.kg 2 (pc' := 53) (lv' := [.ref 104, .int x1, .int x2, .int (x3 + (1 : Int32)), am_ju, am_ju, am_ju, am_ju]) (st' := []) (h' := (zl sn sx, xa c0 T b r B tl, M, q)) (fun _ _ => rfl) ?_
  exact hg _ hM
theorem sj_Board_attacked_D_121 {fu : Nat} {sn : Nat} {sx : Nat → Int32} {M : List am_C} {q : Nat × Nat} {c0 : am_C} {tl : List am_C} {T : TxT} {r : RdT} {B : BdT} {b : BdT} {x1 : Int32} {x2 : Int32} {x3 : Int32} {x6 : Int32} {s0 : Int32} {oo : am_O} {e : Int32} {gg : Int32 → Option (Int32)} (hx : x_Board_attacked_D_53 sn sx M q c0 tl T r B b x1 x2 oo e) (hg : ∀ (x3 : Int32), gg x3 = some e → am_ev 1 k_Board_attacked (53, [.ref 104, .int x1, .int x2, .int x3, am_ju, am_ju, am_ju, am_ju], [], (zl sn sx, xa c0 T b r B tl, M, q)) oo) (hM : j_Board_attacked_121 fu gg b x1 x2 x3 x6 s0 = some e) : am_ev 1 k_Board_attacked (121, [.ref 104, .int x1, .int x2, .int x3, am_ju, am_ju, .int x6, am_ju], [.int s0], (zl sn sx, xa c0 T b r B tl, M, q)) oo := by
  unfold j_Board_attacked_121 at hM
  rcases am_if hM with ⟨c6, hM⟩ | ⟨c6, hM⟩
  · refine am_ev.kt 6 162 131 [.ref 104, .int x1, .int x2, .int x3, am_ju, am_ju, .int x6, .int s0] [] (zl sn sx, xa c0 T b r B tl, M, q) c6 (fun _ _ => rfl) ?_
    refine am_ev.wk (lv' := [.ref 104, .int x1, .int x2, .int x3, am_ju, am_ju, am_ju, am_ju]) (am_lc (Or.inr rfl) (am_lc (Or.inr rfl) (am_lc (Or.inr rfl) (am_lc (Or.inr rfl) (am_lc (Or.inr rfl) (am_lc (Or.inr rfl) (am_lc (Or.inl rfl) (am_lc (Or.inl rfl) am_ln)))))))) ?_
    exact sj_Board_attacked_D_162 hx hg hM
  · refine am_ev.ke 6 162 131 [.ref 104, .int x1, .int x2, .int x3, am_ju, am_ju, .int x6, .int s0] [] (zl sn sx, xa c0 T b r B tl, M, q) c6 (fun _ _ => rfl) ?_
    rcases am_if hM with ⟨c7, hM⟩ | ⟨c7, hM⟩
    · refine am_ev.kt 6 162 140 [.ref 104, .int x1, .int x2, .int x3, am_ju, am_ju, .int x6, .int s0] [] (zl sn sx, xa c0 T b r B tl, M, q) c7 (fun _ _ => rfl) ?_
      refine am_ev.wk (lv' := [.ref 104, .int x1, .int x2, .int x3, am_ju, am_ju, am_ju, am_ju]) (am_lc (Or.inr rfl) (am_lc (Or.inr rfl) (am_lc (Or.inr rfl) (am_lc (Or.inr rfl) (am_lc (Or.inr rfl) (am_lc (Or.inr rfl) (am_lc (Or.inl rfl) (am_lc (Or.inl rfl) am_ln)))))))) ?_
      exact sj_Board_attacked_D_162 hx hg hM
    · refine am_ev.ke 6 162 140 [.ref 104, .int x1, .int x2, .int x3, am_ju, am_ju, .int x6, .int s0] [] (zl sn sx, xa c0 T b r B tl, M, q) c7 (fun _ _ => rfl) ?_
      cases hM
      cases hx
      exact am_ev.kf 2 (fun _ _ => rfl)
theorem sb_Board_attacked_D_3 {fu : Nat} {sn : Nat} {sx : Nat → Int32} {M : List am_C} {q : Nat × Nat} {c0 : am_C} {tl : List am_C} {T : TxT} {r : RdT} {B : BdT} {b : BdT} {x1 : Int32} {x2 : Int32} {oo : am_O} {e : ((Unit)) ⊕ (Int32)} {gg : Int32 → Option (((Unit)) ⊕ (Int32))} (hx : x_Board_attacked_D_3 sn sx M q c0 tl T r B b x1 x2 oo e) (hg : ∀ (x3 : Int32), gg x3 = some e → am_ev 1 k_Board_attacked (3, [.ref 104, .int x1, .int x2, .int x3, am_ju, am_ju, am_ju, am_ju], [], (zl sn sx, xa c0 T b r B tl, M, q)) oo) {x3 : Int32} (hM : b_Board_attacked_3 fu b x1 x2 gg x3 = some e) : am_ev 1 k_Board_attacked (3, [.ref 104, .int x1, .int x2, .int x3, am_ju, am_ju, am_ju, am_ju], [], (zl sn sx, xa c0 T b r B tl, M, q)) oo := by
  unfold b_Board_attacked_3 at hM
  rcases am_if hM with ⟨c8, hM⟩ | ⟨c8, hM⟩
  · refine am_ev.kt 3 51 9 [.ref 104, .int x1, .int x2, .int x3, am_ju, am_ju, am_ju, am_ju] [] (zl sn sx, xa c0 T b r B tl, M, q) c8 (fun _ _ => rfl) ?_
    refine am_ev.wk (lv' := [.ref 104, .int x1, .int x2, am_ju, am_ju, am_ju, am_ju, am_ju]) (am_lc (Or.inr rfl) (am_lc (Or.inr rfl) (am_lc (Or.inr rfl) (am_lc (Or.inl rfl) (am_lc (Or.inr rfl) (am_lc (Or.inr rfl) (am_lc (Or.inr rfl) (am_lc (Or.inr rfl) am_ln)))))))) ?_
    cases hM
    exact hx
  · refine am_ev.ke 3 51 9 [.ref 104, .int x1, .int x2, .int x3, am_ju, am_ju, am_ju, am_ju] [] (zl sn sx, xa c0 T b r B tl, M, q) c8 (fun _ _ => rfl) ?_
    obtain ⟨c9, hM⟩ := am_ifn hM
    refine am_ev.kc 8 20 [.ref 104, .int x1, .int x2, .int x3, am_ju, am_ju, am_ju, am_ju] [.int (tb_next ((((64 : Int32) * x3) + x1)).toNatClampNeg)] (zl sn sx, xa c0 T b r B tl, M, q) c9 (fun _ _ => rfl) ?_
    rcases am_if hM with ⟨c10, hM⟩ | ⟨c10, hM⟩
    · refine am_ev.kt 3 45 27 [.ref 104, .int x1, .int x2, .int x3, .int (tb_next ((((64 : Int32) * x3) + x1)).toNatClampNeg), am_ju, am_ju, am_ju] [] (zl sn sx, xa c0 T b r B tl, M, q) c10 (fun _ _ => rfl) ?_
      refine am_ev.wk (lv' := [.ref 104, .int x1, .int x2, .int x3, am_ju, am_ju, am_ju, am_ju]) (am_lc (Or.inr rfl) (am_lc (Or.inr rfl) (am_lc (Or.inr rfl) (am_lc (Or.inr rfl) (am_lc (Or.inl rfl) (am_lc (Or.inr rfl) (am_lc (Or.inr rfl) (am_lc (Or.inr rfl) am_ln)))))))) ?_
      exact sj_Board_attacked_D_45 hx hg hM
    · refine am_ev.ke 3 45 27 [.ref 104, .int x1, .int x2, .int x3, .int (tb_next ((((64 : Int32) * x3) + x1)).toNatClampNeg), am_ju, am_ju, am_ju] [] (zl sn sx, xa c0 T b r B tl, M, q) c10 (fun _ _ => rfl) ?_
      obtain ⟨c11, hM⟩ := am_ifn hM
      refine am_ev.kc 4 34 [.ref 104, .int x1, .int x2, .int x3, .int (tb_next ((((64 : Int32) * x3) + x1)).toNatClampNeg), am_ju, am_ju, am_ju] [.int ((bd_men b) ((tb_next ((((64 : Int32) * x3) + x1)).toNatClampNeg)).toNatClampNeg)] (zl sn sx, xa c0 T b r B tl, M, q) c11 (fun _ _ => rfl) ?_
      rcases am_if hM with ⟨c12, hM⟩ | ⟨c12, hM⟩
      · refine am_ev.kt 6 45 43 [.ref 104, .int x1, .int x2, .int x3, .int (tb_next ((((64 : Int32) * x3) + x1)).toNatClampNeg), am_ju, am_ju, am_ju] [] (zl sn sx, xa c0 T b r B tl, M, q) c12 (fun _ _ => rfl) ?_
        refine am_ev.wk (lv' := [.ref 104, .int x1, .int x2, .int x3, am_ju, am_ju, am_ju, am_ju]) (am_lc (Or.inr rfl) (am_lc (Or.inr rfl) (am_lc (Or.inr rfl) (am_lc (Or.inr rfl) (am_lc (Or.inl rfl) (am_lc (Or.inr rfl) (am_lc (Or.inr rfl) (am_lc (Or.inr rfl) am_ln)))))))) ?_
        exact sj_Board_attacked_D_45 hx hg hM
      · refine am_ev.ke 6 45 43 [.ref 104, .int x1, .int x2, .int x3, .int (tb_next ((((64 : Int32) * x3) + x1)).toNatClampNeg), am_ju, am_ju, am_ju] [] (zl sn sx, xa c0 T b r B tl, M, q) c12 (fun _ _ => rfl) ?_
        cases hM
        cases hx
        exact am_ev.kf 2 (fun _ _ => rfl)
theorem sl_Board_attacked_D_3 {fu : Nat} {sn : Nat} {sx : Nat → Int32} {M : List am_C} {q : Nat × Nat} {c0 : am_C} {tl : List am_C} {T : TxT} {r : RdT} {B : BdT} {b : BdT} {x1 : Int32} {x2 : Int32} {oo : am_O} {e : ((Unit)) ⊕ (Int32)} (hx : x_Board_attacked_D_3 sn sx M q c0 tl T r B b x1 x2 oo e) : ∀ (n : Nat) (x3 : Int32), l_Board_attacked_3 fu b x1 x2 n x3 = some e → am_ev 1 k_Board_attacked (3, [.ref 104, .int x1, .int x2, .int x3, am_ju, am_ju, am_ju, am_ju], [], (zl sn sx, xa c0 T b r B tl, M, q)) oo
  | 0, _, hM => by have h : (none : Option (((Unit)) ⊕ (Int32))) = some e := hM; cases h
  | n + 1, _, hM => sb_Board_attacked_D_3 hx (fun _ hM => sl_Board_attacked_D_3 hx n _ hM) hM
theorem sj_Board_attacked_D_101 {fu : Nat} {sn : Nat} {sx : Nat → Int32} {M : List am_C} {q : Nat × Nat} {c0 : am_C} {tl : List am_C} {T : TxT} {r : RdT} {B : BdT} {b : BdT} {x1 : Int32} {x2 : Int32} {x3 : Int32} {x5 : Int32} {x6 : Int32} {oo : am_O} {e : Int32} {gg : Int32 → Option (Int32)} (hx : x_Board_attacked_D_53 sn sx M q c0 tl T r B b x1 x2 oo e) (hg : ∀ (x3 : Int32), gg x3 = some e → am_ev 1 k_Board_attacked (53, [.ref 104, .int x1, .int x2, .int x3, am_ju, am_ju, am_ju, am_ju], [], (zl sn sx, xa c0 T b r B tl, M, q)) oo) (hM : j_Board_attacked_101 fu gg b x1 x2 x3 x5 x6 = some e) : am_ev 1 k_Board_attacked (101, [.ref 104, .int x1, .int x2, .int x3, am_ju, .int x5, .int x6, am_ju], [], (zl sn sx, xa c0 T b r B tl, M, q)) oo := by
  unfold j_Board_attacked_101 at hM
  rcases am_if hM with ⟨c13, hM⟩ | ⟨c13, hM⟩
  · refine am_ev.kt 2 115 106 [.ref 104, .int x1, .int x2, .int x3, am_ju, .int x5, .int x6, am_ju] [] (zl sn sx, xa c0 T b r B tl, M, q) c13 (fun _ _ => rfl) ?_
    obtain ⟨c14, hM⟩ := am_ifn hM
    refine am_ev.kc 3 121 [.ref 104, .int x1, .int x2, .int x3, am_ju, .int x5, .int x6, am_ju] [.int (tb_FAR (x6).toNatClampNeg)] (zl sn sx, xa c0 T b r B tl, M, q) c14 (fun _ _ => rfl) ?_
    refine am_ev.wk (lv' := [.ref 104, .int x1, .int x2, .int x3, am_ju, am_ju, .int x6, am_ju]) (am_lc (Or.inr rfl) (am_lc (Or.inr rfl) (am_lc (Or.inr rfl) (am_lc (Or.inr rfl) (am_lc (Or.inr rfl) (am_lc (Or.inl rfl) (am_lc (Or.inr rfl) (am_lc (Or.inr rfl) am_ln)))))))) ?_
    exact sj_Board_attacked_D_121 hx hg hM
  · refine am_ev.ke 2 115 106 [.ref 104, .int x1, .int x2, .int x3, am_ju, .int x5, .int x6, am_ju] [] (zl sn sx, xa c0 T b r B tl, M, q) c13 (fun _ _ => rfl) ?_
    obtain ⟨c15, hM⟩ := am_ifn hM
    refine am_ev.kc 3 112 [.ref 104, .int x1, .int x2, .int x3, am_ju, .int x5, .int x6, am_ju] [.int (tb_NEAR (x6).toNatClampNeg)] (zl sn sx, xa c0 T b r B tl, M, q) c15 (fun _ _ => rfl) ?_
    refine am_ev.kg 1 (pc' := 121) (lv' := [.ref 104, .int x1, .int x2, .int x3, am_ju, .int x5, .int x6, am_ju]) (st' := [.int (tb_NEAR (x6).toNatClampNeg)]) (h' := (zl sn sx, xa c0 T b r B tl, M, q)) (fun _ _ => rfl) ?_
    refine am_ev.wk (lv' := [.ref 104, .int x1, .int x2, .int x3, am_ju, am_ju, .int x6, am_ju]) (am_lc (Or.inr rfl) (am_lc (Or.inr rfl) (am_lc (Or.inr rfl) (am_lc (Or.inr rfl) (am_lc (Or.inr rfl) (am_lc (Or.inl rfl) (am_lc (Or.inr rfl) (am_lc (Or.inr rfl) am_ln)))))))) ?_
    exact sj_Board_attacked_D_121 hx hg hM
theorem sb_Board_attacked_D_53 {fu : Nat} {sn : Nat} {sx : Nat → Int32} {M : List am_C} {q : Nat × Nat} {c0 : am_C} {tl : List am_C} {T : TxT} {r : RdT} {B : BdT} {b : BdT} {x1 : Int32} {x2 : Int32} {oo : am_O} {e : Int32} {gg : Int32 → Option (Int32)} (hx : x_Board_attacked_D_53 sn sx M q c0 tl T r B b x1 x2 oo e) (hg : ∀ (x3 : Int32), gg x3 = some e → am_ev 1 k_Board_attacked (53, [.ref 104, .int x1, .int x2, .int x3, am_ju, am_ju, am_ju, am_ju], [], (zl sn sx, xa c0 T b r B tl, M, q)) oo) {x3 : Int32} (hM : b_Board_attacked_53 fu b x1 x2 gg x3 = some e) : am_ev 1 k_Board_attacked (53, [.ref 104, .int x1, .int x2, .int x3, am_ju, am_ju, am_ju, am_ju], [], (zl sn sx, xa c0 T b r B tl, M, q)) oo := by
  unfold b_Board_attacked_53 at hM
  rcases am_if hM with ⟨c16, hM⟩ | ⟨c16, hM⟩
  · refine am_ev.kt 3 168 59 [.ref 104, .int x1, .int x2, .int x3, am_ju, am_ju, am_ju, am_ju] [] (zl sn sx, xa c0 T b r B tl, M, q) c16 (fun _ _ => rfl) ?_
    cases hM
    cases hx
    exact am_ev.kf 2 (fun _ _ => rfl)
  · refine am_ev.ke 3 168 59 [.ref 104, .int x1, .int x2, .int x3, am_ju, am_ju, am_ju, am_ju] [] (zl sn sx, xa c0 T b r B tl, M, q) c16 (fun _ _ => rfl) ?_
    obtain ⟨c17, hM⟩ := am_ifn hM
    refine am_ev.kc 8 70 [.ref 104, .int x1, .int x2, .int x3, am_ju, am_ju, am_ju, am_ju] [.int (tb_next ((((64 : Int32) * x3) + x1)).toNatClampNeg)] (zl sn sx, xa c0 T b r B tl, M, q) c17 (fun _ _ => rfl) ?_
    refine am_ev.kg 3 (pc' := 75) (lv' := [.ref 104, .int x1, .int x2, .int x3, .int (tb_next ((((64 : Int32) * x3) + x1)).toNatClampNeg), .int (0 : Int32), am_ju, am_ju]) (st' := []) (h' := (zl sn sx, xa c0 T b r B tl, M, q)) (fun _ _ => rfl) ?_
    obtain ⟨z, hz, hM⟩ := am_bind hM
    rcases z with z | z
    ·
      obtain ⟨x5_1, x6_1⟩ := z
      refine sl_Board_attacked_D_75 ?_ _ _ _ hz
      show am_ev 1 k_Board_attacked (101, [.ref 104, .int x1, .int x2, .int x3, am_ju, .int x5_1, .int x6_1, am_ju], [], (zl sn sx, xa c0 T b r B tl, M, q)) oo
      exact sj_Board_attacked_D_101 hx hg hM
    ·
      refine sl_Board_attacked_D_75 ?_ _ _ _ hz
      show am_ev 1 k_Board_attacked (162, [.ref 104, .int x1, .int x2, .int x3, am_ju, am_ju, am_ju, am_ju], [], (zl sn sx, xa c0 T b r B tl, M, q)) oo
      exact sj_Board_attacked_D_162 hx hg hM
theorem sl_Board_attacked_D_53 {fu : Nat} {sn : Nat} {sx : Nat → Int32} {M : List am_C} {q : Nat × Nat} {c0 : am_C} {tl : List am_C} {T : TxT} {r : RdT} {B : BdT} {b : BdT} {x1 : Int32} {x2 : Int32} {oo : am_O} {e : Int32} (hx : x_Board_attacked_D_53 sn sx M q c0 tl T r B b x1 x2 oo e) : ∀ (n : Nat) (x3 : Int32), l_Board_attacked_53 fu b x1 x2 n x3 = some e → am_ev 1 k_Board_attacked (53, [.ref 104, .int x1, .int x2, .int x3, am_ju, am_ju, am_ju, am_ju], [], (zl sn sx, xa c0 T b r B tl, M, q)) oo
  | 0, _, hM => by have h : (none : Option (Int32)) = some e := hM; cases h
  | n + 1, _, hM => sb_Board_attacked_D_53 hx (fun _ hM => sl_Board_attacked_D_53 hx n _ hM) hM
theorem sj_Board_attacked_D_51 {fu : Nat} {sn : Nat} {sx : Nat → Int32} {M : List am_C} {q : Nat × Nat} {c0 : am_C} {tl : List am_C} {T : TxT} {r : RdT} {B : BdT} {b : BdT} {x1 : Int32} {x2 : Int32} {oo : am_O} {e : Int32} (hx : y_Board_attacked_D sn sx M q c0 tl T r B b oo e) (hM : j_Board_attacked_51 fu b x1 x2 = some e) : am_ev 1 k_Board_attacked (51, [.ref 104, .int x1, .int x2, am_ju, am_ju, am_ju, am_ju, am_ju], [], (zl sn sx, xa c0 T b r B tl, M, q)) oo := by
  unfold j_Board_attacked_51 at hM
  refine am_ev.kg 2 (pc' := 53) (lv' := [.ref 104, .int x1, .int x2, .int (0 : Int32), am_ju, am_ju, am_ju, am_ju]) (st' := []) (h' := (zl sn sx, xa c0 T b r B tl, M, q)) (fun _ _ => rfl) ?_
  refine sl_Board_attacked_D_53 ?_ _ _ hM
  exact hx
theorem se_Board_attacked_D {fu : Nat} {sn : Nat} {sx : Nat → Int32} {M : List am_C} {q : Nat × Nat} {c0 : am_C} {tl : List am_C} {T : TxT} {r : RdT} {B : BdT} {b : BdT} {x1 : Int32} {x2 : Int32} {oo : am_O} {e : Int32} (hx : y_Board_attacked_D sn sx M q c0 tl T r B b oo e) (hM : f_Board_attacked fu x1 x2 b = some e) : am_ev 1 k_Board_attacked (0, [.ref 104, .int x1, .int x2, am_ju, am_ju, am_ju, am_ju, am_ju], [], (zl sn sx, xa c0 T b r B tl, M, q)) oo := by
  unfold f_Board_attacked at hM
  refine am_ev.kg 2 (pc' := 3) (lv' := [.ref 104, .int x1, .int x2, .int (8 : Int32), am_ju, am_ju, am_ju, am_ju]) (st' := []) (h' := (zl sn sx, xa c0 T b r B tl, M, q)) (fun _ _ => rfl) ?_
  obtain ⟨z, hz, hM⟩ := am_bind hM
  rcases z with z | z
  ·
    refine sl_Board_attacked_D_3 ?_ _ _ hz
    show am_ev 1 k_Board_attacked (51, [.ref 104, .int x1, .int x2, am_ju, am_ju, am_ju, am_ju, am_ju], [], (zl sn sx, xa c0 T b r B tl, M, q)) oo
    exact sj_Board_attacked_D_51 hx hM
  ·
    cases hM
    refine sl_Board_attacked_D_3 ?_ _ _ hz
    exact hx
theorem s_Board_attacked_D {fu : Nat} {sn : Nat} {sx : Nat → Int32} {M : List am_C} {q : Nat × Nat} {c0 : am_C} {tl : List am_C} {T : TxT} {r : RdT} {B : BdT} {b : BdT} {x1 : Int32} {x2 : Int32} {ov : Int32} (hM : f_Board_attacked fu x1 x2 b = some ov) : am_cv 2 k_Board_attacked [.ref 104, .int x1, .int x2] (zl sn sx, xa c0 T b r B tl, M, q) (.inl (some (.int ov)), (zl sn sx, xa c0 T b r B tl, M, q)) := am_cv.of rfl (se_Board_attacked_D (e := ov) (show y_Board_attacked_D sn sx M q c0 tl T r B b _ ov from rfl) hM)
def y_Board_isLegal_D (sn : Nat) (sx : Nat → Int32) (M : List am_C) (q : Nat × Nat) (c0 : am_C) (tl : List am_C) (T : TxT) (r : RdT) (B : BdT) (b : BdT) (oo : am_O) : Int32 → Prop
  | ov => oo = (.inl (some (.int ov)), (zl sn sx, xa c0 T b r B tl, M, q))
theorem se_Board_isLegal_D {fu : Nat} {sn : Nat} {sx : Nat → Int32} {M : List am_C} {q : Nat × Nat} {c0 : am_C} {tl : List am_C} {T : TxT} {r : RdT} {B : BdT} {b : BdT} {oo : am_O} {e : Int32} (hx : y_Board_isLegal_D sn sx M q c0 tl T r B b oo e) (hM : f_Board_isLegal fu b = some e) : am_ev 2 k_Board_isLegal (0, [.ref 104], [], (zl sn sx, xa c0 T b r B tl, M, q)) oo := by
  unfold f_Board_isLegal at hM
  obtain ⟨c1, hM⟩ := am_ifn hM
  refine am_ev.kc 8 12 [.ref 104] [.int ((bd_kings b) (((1 : Int32) - (bd_side b))).toNatClampNeg), .ref 104] (zl sn sx, xa c0 T b r B tl, M, q) c1 (fun _ _ => rfl) ?_
  obtain ⟨rr, hc, hM⟩ := am_bind hM
  obtain ⟨r1, rfl⟩ : ∃ z, z = rr := ⟨_, rfl⟩
  refine am_ev.kg 2 (pc' := 16) (lv' := [.ref 104]) (st' := [.int (bd_side b), .int ((bd_kings b) (((1 : Int32) - (bd_side b))).toNatClampNeg), .ref 104]) (h' := (zl sn sx, xa c0 T b r B tl, M, q)) (fun _ _ => rfl) ?_
  refine am_ev.call rfl rfl rfl ((s_Board_attacked_D hc).mono (by decide)) ?_
  show am_ev _ k_Board_isLegal (19, [.ref 104], [.int r1], (zl sn sx, xa c0 T b r B tl, M, q)) oo
  rcases am_if hM with ⟨c2, hM⟩ | ⟨c2, hM⟩
  · refine am_ev.kt 1 26 22 [.ref 104] [] (zl sn sx, xa c0 T b r B tl, M, q) c2 (fun _ _ => rfl) ?_
    cases hM
    cases hx
    exact am_ev.kf 2 (fun _ _ => rfl)
  · refine am_ev.ke 1 26 22 [.ref 104] [] (zl sn sx, xa c0 T b r B tl, M, q) c2 (fun _ _ => rfl) ?_
    cases hM
    cases hx
    exact am_ev.kf 3 (fun _ _ => rfl)
theorem s_Board_isLegal_D {fu : Nat} {sn : Nat} {sx : Nat → Int32} {M : List am_C} {q : Nat × Nat} {c0 : am_C} {tl : List am_C} {T : TxT} {r : RdT} {B : BdT} {b : BdT} {ov : Int32} (hM : f_Board_isLegal fu b = some ov) : am_cv 3 k_Board_isLegal [.ref 104] (zl sn sx, xa c0 T b r B tl, M, q) (.inl (some (.int ov)), (zl sn sx, xa c0 T b r B tl, M, q)) := am_cv.of rfl (se_Board_isLegal_D (e := ov) (show y_Board_isLegal_D sn sx M q c0 tl T r B b _ ov from rfl) hM)
def y_Reader_hasGoodRights (sn : Nat) (sx : Nat → Int32) (M : List am_C) (q : Nat × Nat) (c0 : am_C) (tl : List am_C) (T : TxT) (D : BdT) (r : RdT) (B : BdT) (oo : am_O) : Int32 → Prop
  | ov => oo = (.inl (some (.int ov)), (zl sn sx, xa c0 T D r B tl, M, q))
theorem sj_Reader_hasGoodRights_114 {sn : Nat} {sx : Nat → Int32} {M : List am_C} {q : Nat × Nat} {c0 : am_C} {tl : List am_C} {T : TxT} {D : BdT} {r : RdT} {B : BdT} {x4 : Int32} {oo : am_O} {e : Int32} (hx : y_Reader_hasGoodRights sn sx M q c0 tl T D r B oo e) (hM : j_Reader_hasGoodRights_114 D x4 = some e) : am_ev 1 k_Reader_hasGoodRights (114, [.ref 113, am_ju, am_ju, am_ju, .int x4], [], (zl sn sx, xa c0 T D r B tl, M, q)) oo := by
  unfold j_Reader_hasGoodRights_114 at hM
  rcases am_if hM with ⟨c1, hM⟩ | ⟨c1, hM⟩
  · refine am_ev.kt 8 133 129 [.ref 113, am_ju, am_ju, am_ju, .int x4] [] (zl sn sx, xa c0 T D r B tl, M, q) c1 (fun _ _ => rfl) ?_
    cases hM
    cases hx
    exact am_ev.kf 2 (fun _ _ => rfl)
  · refine am_ev.ke 8 133 129 [.ref 113, am_ju, am_ju, am_ju, .int x4] [] (zl sn sx, xa c0 T D r B tl, M, q) c1 (fun _ _ => rfl) ?_
    cases hM
    cases hx
    exact am_ev.kf 3 (fun _ _ => rfl)
theorem sj_Reader_hasGoodRights_94 {sn : Nat} {sx : Nat → Int32} {M : List am_C} {q : Nat × Nat} {c0 : am_C} {tl : List am_C} {T : TxT} {D : BdT} {r : RdT} {B : BdT} {x3 : Int32} {x4 : Int32} {oo : am_O} {e : Int32} (hx : y_Reader_hasGoodRights sn sx M q c0 tl T D r B oo e) (hM : j_Reader_hasGoodRights_94 D x3 x4 = some e) : am_ev 1 k_Reader_hasGoodRights (94, [.ref 113, .ref 105, am_ju, .int x3, .int x4], [], (zl sn sx, xa c0 T D r B tl, M, q)) oo := by
  unfold j_Reader_hasGoodRights_94 at hM
  rcases am_if hM with ⟨c2, hM⟩ | ⟨c2, hM⟩
  · refine am_ev.kt 2 114 98 [.ref 113, .ref 105, am_ju, .int x3, .int x4] [] (zl sn sx, xa c0 T D r B tl, M, q) c2 (fun _ _ => rfl) ?_
    refine am_ev.wk (lv' := [.ref 113, am_ju, am_ju, am_ju, .int x4]) (am_lc (Or.inr rfl) (am_lc (Or.inl rfl) (am_lc (Or.inr rfl) (am_lc (Or.inl rfl) (am_lc (Or.inr rfl) am_ln))))) ?_
    exact sj_Reader_hasGoodRights_114 hx hM
  · refine am_ev.ke 2 114 98 [.ref 113, .ref 105, am_ju, .int x3, .int x4] [] (zl sn sx, xa c0 T D r B tl, M, q) c2 (fun _ _ => rfl) ?_
    obtain ⟨c3, hM⟩ := am_ifn hM
    refine am_ev.kc 3 102 [.ref 113, .ref 105, am_ju, .int x3, .int x4] [.int ((bd_men D) ((56 : Int32)).toNatClampNeg)] (zl sn sx, xa c0 T D r B tl, M, q) c3 (fun _ _ => rfl) ?_
    rcases am_if hM with ⟨c4, hM⟩ | ⟨c4, hM⟩
    · refine am_ev.kt 2 114 107 [.ref 113, .ref 105, am_ju, .int x3, .int x4] [] (zl sn sx, xa c0 T D r B tl, M, q) c4 (fun _ _ => rfl) ?_
      refine am_ev.wk (lv' := [.ref 113, am_ju, am_ju, am_ju, .int x4]) (am_lc (Or.inr rfl) (am_lc (Or.inl rfl) (am_lc (Or.inr rfl) (am_lc (Or.inl rfl) (am_lc (Or.inr rfl) am_ln))))) ?_
      exact sj_Reader_hasGoodRights_114 hx hM
    · refine am_ev.ke 2 114 107 [.ref 113, .ref 105, am_ju, .int x3, .int x4] [] (zl sn sx, xa c0 T D r B tl, M, q) c4 (fun _ _ => rfl) ?_
      refine am_ev.kg 4 (pc' := 114) (lv' := [.ref 113, .ref 105, am_ju, .int x3, .int (x4 ||| (8 : Int32))]) (st' := []) (h' := (zl sn sx, xa c0 T D r B tl, M, q)) (fun _ _ => rfl) ?_
      refine am_ev.wk (lv' := [.ref 113, am_ju, am_ju, am_ju, .int (x4 ||| (8 : Int32))]) (am_lc (Or.inr rfl) (am_lc (Or.inl rfl) (am_lc (Or.inr rfl) (am_lc (Or.inl rfl) (am_lc (Or.inr rfl) am_ln))))) ?_
      exact sj_Reader_hasGoodRights_114 hx hM
theorem sj_Reader_hasGoodRights_75 {sn : Nat} {sx : Nat → Int32} {M : List am_C} {q : Nat × Nat} {c0 : am_C} {tl : List am_C} {T : TxT} {D : BdT} {r : RdT} {B : BdT} {x3 : Int32} {x4 : Int32} {oo : am_O} {e : Int32} (hx : y_Reader_hasGoodRights sn sx M q c0 tl T D r B oo e) (hM : j_Reader_hasGoodRights_75 D x3 x4 = some e) : am_ev 1 k_Reader_hasGoodRights (75, [.ref 113, .ref 105, am_ju, .int x3, .int x4], [], (zl sn sx, xa c0 T D r B tl, M, q)) oo := by
  unfold j_Reader_hasGoodRights_75 at hM
  rcases am_if hM with ⟨c5, hM⟩ | ⟨c5, hM⟩
  · refine am_ev.kt 2 94 79 [.ref 113, .ref 105, am_ju, .int x3, .int x4] [] (zl sn sx, xa c0 T D r B tl, M, q) c5 (fun _ _ => rfl) ?_
    exact sj_Reader_hasGoodRights_94 hx hM
  · refine am_ev.ke 2 94 79 [.ref 113, .ref 105, am_ju, .int x3, .int x4] [] (zl sn sx, xa c0 T D r B tl, M, q) c5 (fun _ _ => rfl) ?_
    obtain ⟨c6, hM⟩ := am_ifn hM
    refine am_ev.kc 3 83 [.ref 113, .ref 105, am_ju, .int x3, .int x4] [.int ((bd_men D) ((63 : Int32)).toNatClampNeg)] (zl sn sx, xa c0 T D r B tl, M, q) c6 (fun _ _ => rfl) ?_
    rcases am_if hM with ⟨c7, hM⟩ | ⟨c7, hM⟩
    · refine am_ev.kt 2 94 88 [.ref 113, .ref 105, am_ju, .int x3, .int x4] [] (zl sn sx, xa c0 T D r B tl, M, q) c7 (fun _ _ => rfl) ?_
      exact sj_Reader_hasGoodRights_94 hx hM
    · refine am_ev.ke 2 94 88 [.ref 113, .ref 105, am_ju, .int x3, .int x4] [] (zl sn sx, xa c0 T D r B tl, M, q) c7 (fun _ _ => rfl) ?_
      refine am_ev.kg 4 (pc' := 94) (lv' := [.ref 113, .ref 105, am_ju, .int x3, .int (x4 ||| (4 : Int32))]) (st' := []) (h' := (zl sn sx, xa c0 T D r B tl, M, q)) (fun _ _ => rfl) ?_
      exact sj_Reader_hasGoodRights_94 hx hM
theorem sj_Reader_hasGoodRights_58 {sn : Nat} {sx : Nat → Int32} {M : List am_C} {q : Nat × Nat} {c0 : am_C} {tl : List am_C} {T : TxT} {D : BdT} {r : RdT} {B : BdT} {x2 : Int32} {x3 : Int32} {x4 : Int32} {oo : am_O} {e : Int32} (hx : y_Reader_hasGoodRights sn sx M q c0 tl T D r B oo e) (hM : j_Reader_hasGoodRights_58 D x2 x3 x4 = some e) : am_ev 1 k_Reader_hasGoodRights (58, [.ref 113, .ref 105, .int x2, .int x3, .int x4], [], (zl sn sx, xa c0 T D r B tl, M, q)) oo := by
  unfold j_Reader_hasGoodRights_58 at hM
  rcases am_if hM with ⟨c8, hM⟩ | ⟨c8, hM⟩
  · refine am_ev.kt 2 75 62 [.ref 113, .ref 105, .int x2, .int x3, .int x4] [] (zl sn sx, xa c0 T D r B tl, M, q) c8 (fun _ _ => rfl) ?_
    refine am_ev.wk (lv' := [.ref 113, .ref 105, am_ju, .int x3, .int x4]) (am_lc (Or.inr rfl) (am_lc (Or.inr rfl) (am_lc (Or.inl rfl) (am_lc (Or.inr rfl) (am_lc (Or.inr rfl) am_ln))))) ?_
    exact sj_Reader_hasGoodRights_75 hx hM
  · refine am_ev.ke 2 75 62 [.ref 113, .ref 105, .int x2, .int x3, .int x4] [] (zl sn sx, xa c0 T D r B tl, M, q) c8 (fun _ _ => rfl) ?_
    obtain ⟨c9, hM⟩ := am_ifn hM
    refine am_ev.kc 3 65 [.ref 113, .ref 105, .int x2, .int x3, .int x4] [.int ((bd_men D) ((0 : Int32)).toNatClampNeg)] (zl sn sx, xa c0 T D r B tl, M, q) c9 (fun _ _ => rfl) ?_
    rcases am_if hM with ⟨c10, hM⟩ | ⟨c10, hM⟩
    · refine am_ev.kt 2 75 69 [.ref 113, .ref 105, .int x2, .int x3, .int x4] [] (zl sn sx, xa c0 T D r B tl, M, q) c10 (fun _ _ => rfl) ?_
      refine am_ev.wk (lv' := [.ref 113, .ref 105, am_ju, .int x3, .int x4]) (am_lc (Or.inr rfl) (am_lc (Or.inr rfl) (am_lc (Or.inl rfl) (am_lc (Or.inr rfl) (am_lc (Or.inr rfl) am_ln))))) ?_
      exact sj_Reader_hasGoodRights_75 hx hM
    · refine am_ev.ke 2 75 69 [.ref 113, .ref 105, .int x2, .int x3, .int x4] [] (zl sn sx, xa c0 T D r B tl, M, q) c10 (fun _ _ => rfl) ?_
      refine am_ev.kg 4 (pc' := 75) (lv' := [.ref 113, .ref 105, .int x2, .int x3, .int (x4 ||| (2 : Int32))]) (st' := []) (h' := (zl sn sx, xa c0 T D r B tl, M, q)) (fun _ _ => rfl) ?_
      refine am_ev.wk (lv' := [.ref 113, .ref 105, am_ju, .int x3, .int (x4 ||| (2 : Int32))]) (am_lc (Or.inr rfl) (am_lc (Or.inr rfl) (am_lc (Or.inl rfl) (am_lc (Or.inr rfl) (am_lc (Or.inr rfl) am_ln))))) ?_
      exact sj_Reader_hasGoodRights_75 hx hM
theorem sj_Reader_hasGoodRights_36 {sn : Nat} {sx : Nat → Int32} {M : List am_C} {q : Nat × Nat} {c0 : am_C} {tl : List am_C} {T : TxT} {D : BdT} {r : RdT} {B : BdT} {x2 : Int32} {s0 : Int32} {oo : am_O} {e : Int32} (hx : y_Reader_hasGoodRights sn sx M q c0 tl T D r B oo e) (hM : j_Reader_hasGoodRights_36 D x2 s0 = some e) : am_ev 1 k_Reader_hasGoodRights (36, [.ref 113, .ref 105, .int x2, am_ju, am_ju], [.int s0], (zl sn sx, xa c0 T D r B tl, M, q)) oo := by
  unfold j_Reader_hasGoodRights_36 at hM
  rcases am_if hM with ⟨c11, hM⟩ | ⟨c11, hM⟩
  · refine am_ev.kt 5 58 44 [.ref 113, .ref 105, .int x2, .int s0, .int (0 : Int32)] [] (zl sn sx, xa c0 T D r B tl, M, q) c11 (fun _ _ => rfl) ?_
    exact sj_Reader_hasGoodRights_58 hx hM
  · refine am_ev.ke 5 58 44 [.ref 113, .ref 105, .int x2, .int s0, .int (0 : Int32)] [] (zl sn sx, xa c0 T D r B tl, M, q) c11 (fun _ _ => rfl) ?_
    obtain ⟨c12, hM⟩ := am_ifn hM
    refine am_ev.kc 3 48 [.ref 113, .ref 105, .int x2, .int s0, .int (0 : Int32)] [.int ((bd_men D) ((7 : Int32)).toNatClampNeg)] (zl sn sx, xa c0 T D r B tl, M, q) c12 (fun _ _ => rfl) ?_
    rcases am_if hM with ⟨c13, hM⟩ | ⟨c13, hM⟩
    · refine am_ev.kt 2 58 52 [.ref 113, .ref 105, .int x2, .int s0, .int (0 : Int32)] [] (zl sn sx, xa c0 T D r B tl, M, q) c13 (fun _ _ => rfl) ?_
      exact sj_Reader_hasGoodRights_58 hx hM
    · refine am_ev.ke 2 58 52 [.ref 113, .ref 105, .int x2, .int s0, .int (0 : Int32)] [] (zl sn sx, xa c0 T D r B tl, M, q) c13 (fun _ _ => rfl) ?_
      refine am_ev.kg 4 (pc' := 58) (lv' := [.ref 113, .ref 105, .int x2, .int s0, .int ((0 : Int32) ||| (1 : Int32))]) (st' := []) (h' := (zl sn sx, xa c0 T D r B tl, M, q)) (fun _ _ => rfl) ?_
      exact sj_Reader_hasGoodRights_58 hx hM
theorem sj_Reader_hasGoodRights_21 {sn : Nat} {sx : Nat → Int32} {M : List am_C} {q : Nat × Nat} {c0 : am_C} {tl : List am_C} {T : TxT} {D : BdT} {r : RdT} {B : BdT} {s0 : Int32} {oo : am_O} {e : Int32} (hx : y_Reader_hasGoodRights sn sx M q c0 tl T D r B oo e) (hM : j_Reader_hasGoodRights_21 D s0 = some e) : am_ev 1 k_Reader_hasGoodRights (21, [.ref 113, .ref 105, am_ju, am_ju, am_ju], [.int s0], (zl sn sx, xa c0 T D r B tl, M, q)) oo := by
  unfold j_Reader_hasGoodRights_21 at hM
  obtain ⟨c14, hM⟩ := am_ifn hM
  refine am_ev.kc 4 26 [.ref 113, .ref 105, .int s0, am_ju, am_ju] [.int ((bd_men D) ((60 : Int32)).toNatClampNeg)] (zl sn sx, xa c0 T D r B tl, M, q) c14 (fun _ _ => rfl) ?_
  rcases am_if hM with ⟨c15, hM⟩ | ⟨c15, hM⟩
  · refine am_ev.kt 2 35 31 [.ref 113, .ref 105, .int s0, am_ju, am_ju] [] (zl sn sx, xa c0 T D r B tl, M, q) c15 (fun _ _ => rfl) ?_
    refine am_ev.kg 1 (pc' := 36) (lv' := [.ref 113, .ref 105, .int s0, am_ju, am_ju]) (st' := [.int (0 : Int32)]) (h' := (zl sn sx, xa c0 T D r B tl, M, q)) (fun _ _ => rfl) ?_
    exact sj_Reader_hasGoodRights_36 hx hM
  · refine am_ev.ke 2 35 31 [.ref 113, .ref 105, .int s0, am_ju, am_ju] [] (zl sn sx, xa c0 T D r B tl, M, q) c15 (fun _ _ => rfl) ?_
    refine am_ev.kg 2 (pc' := 36) (lv' := [.ref 113, .ref 105, .int s0, am_ju, am_ju]) (st' := [.int (1 : Int32)]) (h' := (zl sn sx, xa c0 T D r B tl, M, q)) (fun _ _ => rfl) ?_
    exact sj_Reader_hasGoodRights_36 hx hM
theorem se_Reader_hasGoodRights {sn : Nat} {sx : Nat → Int32} {M : List am_C} {q : Nat × Nat} {c0 : am_C} {tl : List am_C} {T : TxT} {D : BdT} {r : RdT} {B : BdT} {oo : am_O} {e : Int32} (hx : y_Reader_hasGoodRights sn sx M q c0 tl T D r B oo e) (hM : f_Reader_hasGoodRights D = some e) : am_ev 1 k_Reader_hasGoodRights (0, [.ref 113, am_ju, am_ju, am_ju, am_ju], [], (zl sn sx, xa c0 T D r B tl, M, q)) oo := by
  unfold f_Reader_hasGoodRights at hM
  obtain ⟨c16, hM⟩ := am_ifn hM
  refine am_ev.kc 7 11 [.ref 113, .ref 105, am_ju, am_ju, am_ju] [.int ((bd_men D) ((4 : Int32)).toNatClampNeg)] (zl sn sx, xa c0 T D r B tl, M, q) c16 (fun _ _ => rfl) ?_
  rcases am_if hM with ⟨c17, hM⟩ | ⟨c17, hM⟩
  · refine am_ev.kt 2 20 16 [.ref 113, .ref 105, am_ju, am_ju, am_ju] [] (zl sn sx, xa c0 T D r B tl, M, q) c17 (fun _ _ => rfl) ?_
    refine am_ev.kg 1 (pc' := 21) (lv' := [.ref 113, .ref 105, am_ju, am_ju, am_ju]) (st' := [.int (0 : Int32)]) (h' := (zl sn sx, xa c0 T D r B tl, M, q)) (fun _ _ => rfl) ?_
    exact sj_Reader_hasGoodRights_21 hx hM
  · refine am_ev.ke 2 20 16 [.ref 113, .ref 105, am_ju, am_ju, am_ju] [] (zl sn sx, xa c0 T D r B tl, M, q) c17 (fun _ _ => rfl) ?_
    refine am_ev.kg 2 (pc' := 21) (lv' := [.ref 113, .ref 105, am_ju, am_ju, am_ju]) (st' := [.int (1 : Int32)]) (h' := (zl sn sx, xa c0 T D r B tl, M, q)) (fun _ _ => rfl) ?_
    exact sj_Reader_hasGoodRights_21 hx hM
theorem s_Reader_hasGoodRights {sn : Nat} {sx : Nat → Int32} {M : List am_C} {q : Nat × Nat} {c0 : am_C} {tl : List am_C} {T : TxT} {D : BdT} {r : RdT} {B : BdT} {ov : Int32} (hM : f_Reader_hasGoodRights D = some ov) : am_cv 2 k_Reader_hasGoodRights [.ref 113] (zl sn sx, xa c0 T D r B tl, M, q) (.inl (some (.int ov)), (zl sn sx, xa c0 T D r B tl, M, q)) := am_cv.of rfl (se_Reader_hasGoodRights (e := ov) (show y_Reader_hasGoodRights sn sx M q c0 tl T D r B _ ov from rfl) hM)
def y_Board_pawnAttacks_D (sn : Nat) (sx : Nat → Int32) (M : List am_C) (q : Nat × Nat) (c0 : am_C) (tl : List am_C) (T : TxT) (r : RdT) (B : BdT) (b : BdT) (oo : am_O) : Int32 → Prop
  | ov => oo = (.inl (some (.int ov)), (zl sn sx, xa c0 T b r B tl, M, q))
theorem sj_Board_pawnAttacks_D_65 {sn : Nat} {sx : Nat → Int32} {M : List am_C} {q : Nat × Nat} {c0 : am_C} {tl : List am_C} {T : TxT} {r : RdT} {B : BdT} {b : BdT} {x3 : Int32} {x6 : Int32} {oo : am_O} {e : Int32} (hx : y_Board_pawnAttacks_D sn sx M q c0 tl T r B b oo e) (hM : j_Board_pawnAttacks_65 b x3 x6 = some e) : am_ev 1 k_Board_pawnAttacks (65, [.ref 104, am_ju, am_ju, .int x3, am_ju, am_ju, .int x6], [], (zl sn sx, xa c0 T b r B tl, M, q)) oo := by
  unfold j_Board_pawnAttacks_65 at hM
  rcases am_if hM with ⟨c1, hM⟩ | ⟨c1, hM⟩
  · refine am_ev.kt 2 85 70 [.ref 104, am_ju, am_ju, .int x3, am_ju, am_ju, .int x6] [] (zl sn sx, xa c0 T b r B tl, M, q) c1 (fun _ _ => rfl) ?_
    cases hM
    cases hx
    exact am_ev.kf 2 (fun _ _ => rfl)
  · refine am_ev.ke 2 85 70 [.ref 104, am_ju, am_ju, .int x3, am_ju, am_ju, .int x6] [] (zl sn sx, xa c0 T b r B tl, M, q) c1 (fun _ _ => rfl) ?_
    obtain ⟨c2, hM⟩ := am_ifn hM
    refine am_ev.kc 4 77 [.ref 104, am_ju, am_ju, .int x3, am_ju, am_ju, .int x6] [.int ((bd_men b) (x6).toNatClampNeg)] (zl sn sx, xa c0 T b r B tl, M, q) c2 (fun _ _ => rfl) ?_
    rcases am_if hM with ⟨c3, hM⟩ | ⟨c3, hM⟩
    · refine am_ev.kt 2 85 81 [.ref 104, am_ju, am_ju, .int x3, am_ju, am_ju, .int x6] [] (zl sn sx, xa c0 T b r B tl, M, q) c3 (fun _ _ => rfl) ?_
      cases hM
      cases hx
      exact am_ev.kf 2 (fun _ _ => rfl)
    · refine am_ev.ke 2 85 81 [.ref 104, am_ju, am_ju, .int x3, am_ju, am_ju, .int x6] [] (zl sn sx, xa c0 T b r B tl, M, q) c3 (fun _ _ => rfl) ?_
      cases hM
      cases hx
      exact am_ev.kf 3 (fun _ _ => rfl)
theorem sj_Board_pawnAttacks_D_17 {sn : Nat} {sx : Nat → Int32} {M : List am_C} {q : Nat × Nat} {c0 : am_C} {tl : List am_C} {T : TxT} {r : RdT} {B : BdT} {b : BdT} {x1 : Int32} {x3 : Int32} {s0 : Int32} {oo : am_O} {e : Int32} (hx : y_Board_pawnAttacks_D sn sx M q c0 tl T r B b oo e) (hM : j_Board_pawnAttacks_17 b x1 x3 s0 = some e) : am_ev 1 k_Board_pawnAttacks (17, [.ref 104, .int x1, am_ju, .int x3, am_ju, am_ju, am_ju], [.int s0], (zl sn sx, xa c0 T b r B tl, M, q)) oo := by
  unfold j_Board_pawnAttacks_17 at hM
  obtain ⟨c4, hM⟩ := am_ifn hM
  refine am_ev.kc 9 31 [.ref 104, .int x1, am_ju, .int x3, .int s0, am_ju, am_ju] [.int (tb_next ((((64 : Int32) * s0) + x1)).toNatClampNeg)] (zl sn sx, xa c0 T b r B tl, M, q) c4 (fun _ _ => rfl) ?_
  obtain ⟨c5, hM⟩ := am_ifn hM
  refine am_ev.kc 11 47 [.ref 104, .int x1, am_ju, .int x3, .int s0, .int (tb_next ((((64 : Int32) * s0) + x1)).toNatClampNeg), am_ju] [.int (tb_next ((((64 : Int32) * (s0 + (1 : Int32))) + x1)).toNatClampNeg)] (zl sn sx, xa c0 T b r B tl, M, q) c5 (fun _ _ => rfl) ?_
  rcases am_if hM with ⟨c6, hM⟩ | ⟨c6, hM⟩
  · refine am_ev.kt 3 65 54 [.ref 104, .int x1, am_ju, .int x3, .int s0, .int (tb_next ((((64 : Int32) * s0) + x1)).toNatClampNeg), .int (tb_next ((((64 : Int32) * (s0 + (1 : Int32))) + x1)).toNatClampNeg)] [] (zl sn sx, xa c0 T b r B tl, M, q) c6 (fun _ _ => rfl) ?_
    refine am_ev.wk (lv' := [.ref 104, am_ju, am_ju, .int x3, am_ju, am_ju, .int (tb_next ((((64 : Int32) * (s0 + (1 : Int32))) + x1)).toNatClampNeg)]) (am_lc (Or.inr rfl) (am_lc (Or.inl rfl) (am_lc (Or.inr rfl) (am_lc (Or.inr rfl) (am_lc (Or.inl rfl) (am_lc (Or.inl rfl) (am_lc (Or.inr rfl) am_ln))))))) ?_
    exact sj_Board_pawnAttacks_D_65 hx hM
  · refine am_ev.ke 3 65 54 [.ref 104, .int x1, am_ju, .int x3, .int s0, .int (tb_next ((((64 : Int32) * s0) + x1)).toNatClampNeg), .int (tb_next ((((64 : Int32) * (s0 + (1 : Int32))) + x1)).toNatClampNeg)] [] (zl sn sx, xa c0 T b r B tl, M, q) c6 (fun _ _ => rfl) ?_
    obtain ⟨c7, hM⟩ := am_ifn hM
    refine am_ev.kc 4 61 [.ref 104, .int x1, am_ju, .int x3, .int s0, .int (tb_next ((((64 : Int32) * s0) + x1)).toNatClampNeg), .int (tb_next ((((64 : Int32) * (s0 + (1 : Int32))) + x1)).toNatClampNeg)] [.int ((bd_men b) ((tb_next ((((64 : Int32) * s0) + x1)).toNatClampNeg)).toNatClampNeg)] (zl sn sx, xa c0 T b r B tl, M, q) c7 (fun _ _ => rfl) ?_
    rcases am_if hM with ⟨c8, hM⟩ | ⟨c8, hM⟩
    · refine am_ev.kt 2 81 65 [.ref 104, .int x1, am_ju, .int x3, .int s0, .int (tb_next ((((64 : Int32) * s0) + x1)).toNatClampNeg), .int (tb_next ((((64 : Int32) * (s0 + (1 : Int32))) + x1)).toNatClampNeg)] [] (zl sn sx, xa c0 T b r B tl, M, q) c8 (fun _ _ => rfl) ?_
      cases hM
      cases hx
      exact am_ev.kf 3 (fun _ _ => rfl)
    · refine am_ev.ke 2 81 65 [.ref 104, .int x1, am_ju, .int x3, .int s0, .int (tb_next ((((64 : Int32) * s0) + x1)).toNatClampNeg), .int (tb_next ((((64 : Int32) * (s0 + (1 : Int32))) + x1)).toNatClampNeg)] [] (zl sn sx, xa c0 T b r B tl, M, q) c8 (fun _ _ => rfl) ?_
      refine am_ev.wk (lv' := [.ref 104, am_ju, am_ju, .int x3, am_ju, am_ju, .int (tb_next ((((64 : Int32) * (s0 + (1 : Int32))) + x1)).toNatClampNeg)]) (am_lc (Or.inr rfl) (am_lc (Or.inl rfl) (am_lc (Or.inr rfl) (am_lc (Or.inr rfl) (am_lc (Or.inl rfl) (am_lc (Or.inl rfl) (am_lc (Or.inr rfl) am_ln))))))) ?_
      exact sj_Board_pawnAttacks_D_65 hx hM
theorem se_Board_pawnAttacks_D {sn : Nat} {sx : Nat → Int32} {M : List am_C} {q : Nat × Nat} {c0 : am_C} {tl : List am_C} {T : TxT} {r : RdT} {B : BdT} {b : BdT} {x1 : Int32} {x2 : Int32} {oo : am_O} {e : Int32} (hx : y_Board_pawnAttacks_D sn sx M q c0 tl T r B b oo e) (hM : f_Board_pawnAttacks x1 x2 b = some e) : am_ev 1 k_Board_pawnAttacks (0, [.ref 104, .int x1, .int x2, am_ju, am_ju, am_ju, am_ju], [], (zl sn sx, xa c0 T b r B tl, M, q)) oo := by
  unfold f_Board_pawnAttacks at hM
  rcases am_if hM with ⟨c9, hM⟩ | ⟨c9, hM⟩
  · refine am_ev.kt 8 16 11 [.ref 104, .int x1, .int x2, .int ((1 : Int32) + ((8 : Int32) * x2)), am_ju, am_ju, am_ju] [] (zl sn sx, xa c0 T b r B tl, M, q) c9 (fun _ _ => rfl) ?_
    refine am_ev.kg 1 (pc' := 17) (lv' := [.ref 104, .int x1, .int x2, .int ((1 : Int32) + ((8 : Int32) * x2)), am_ju, am_ju, am_ju]) (st' := [.int (4 : Int32)]) (h' := (zl sn sx, xa c0 T b r B tl, M, q)) (fun _ _ => rfl) ?_
    refine am_ev.wk (lv' := [.ref 104, .int x1, am_ju, .int ((1 : Int32) + ((8 : Int32) * x2)), am_ju, am_ju, am_ju]) (am_lc (Or.inr rfl) (am_lc (Or.inr rfl) (am_lc (Or.inl rfl) (am_lc (Or.inr rfl) (am_lc (Or.inr rfl) (am_lc (Or.inr rfl) (am_lc (Or.inr rfl) am_ln))))))) ?_
    exact sj_Board_pawnAttacks_D_17 hx hM
  · refine am_ev.ke 8 16 11 [.ref 104, .int x1, .int x2, .int ((1 : Int32) + ((8 : Int32) * x2)), am_ju, am_ju, am_ju] [] (zl sn sx, xa c0 T b r B tl, M, q) c9 (fun _ _ => rfl) ?_
    refine am_ev.kg 2 (pc' := 17) (lv' := [.ref 104, .int x1, .int x2, .int ((1 : Int32) + ((8 : Int32) * x2)), am_ju, am_ju, am_ju]) (st' := [.int (6 : Int32)]) (h' := (zl sn sx, xa c0 T b r B tl, M, q)) (fun _ _ => rfl) ?_
    refine am_ev.wk (lv' := [.ref 104, .int x1, am_ju, .int ((1 : Int32) + ((8 : Int32) * x2)), am_ju, am_ju, am_ju]) (am_lc (Or.inr rfl) (am_lc (Or.inr rfl) (am_lc (Or.inl rfl) (am_lc (Or.inr rfl) (am_lc (Or.inr rfl) (am_lc (Or.inr rfl) (am_lc (Or.inr rfl) am_ln))))))) ?_
    exact sj_Board_pawnAttacks_D_17 hx hM
theorem s_Board_pawnAttacks_D {sn : Nat} {sx : Nat → Int32} {M : List am_C} {q : Nat × Nat} {c0 : am_C} {tl : List am_C} {T : TxT} {r : RdT} {B : BdT} {b : BdT} {x1 : Int32} {x2 : Int32} {ov : Int32} (hM : f_Board_pawnAttacks x1 x2 b = some ov) : am_cv 2 k_Board_pawnAttacks [.ref 104, .int x1, .int x2] (zl sn sx, xa c0 T b r B tl, M, q) (.inl (some (.int ov)), (zl sn sx, xa c0 T b r B tl, M, q)) := am_cv.of rfl (se_Board_pawnAttacks_D (e := ov) (show y_Board_pawnAttacks_D sn sx M q c0 tl T r B b _ ov from rfl) hM)
