def y_Board_attacked_B (sn : Nat) (sx : Nat → Int32) (M : List am_C) (q : Nat × Nat) (c0 : am_C) (tl : List am_C) (T : TxT) (D : BdT) (r : RdT) (b : BdT) (o : am_O) : Int32 → Prop
  | ov => o = (.inl (some (.int ov)), (zl sn sx, xa c0 T D r b tl, M, q))
def x_Board_attacked_B_75 (sn : Nat) (sx : Nat → Int32) (M : List am_C) (q : Nat × Nat) (c0 : am_C) (tl : List am_C) (T : TxT) (D : BdT) (r : RdT) (b : BdT) (x1 : Int32) (x2 : Int32) (x3 : Int32) (o : am_O) : (Int32 × Int32) ⊕ (Unit) → Prop
  | (.inl (x5, x6)) => am_ev 1 k_Board_attacked (101, [.ref 114, .int x1, .int x2, .int x3, am_ju, .int x5, .int x6, am_ju], [], (zl sn sx, xa c0 T D r b tl, M, q)) o
  | (.inr ()) => am_ev 1 k_Board_attacked (162, [.ref 114, .int x1, .int x2, .int x3, am_ju, am_ju, am_ju, am_ju], [], (zl sn sx, xa c0 T D r b tl, M, q)) o
def x_Board_attacked_B_3 (sn : Nat) (sx : Nat → Int32) (M : List am_C) (q : Nat × Nat) (c0 : am_C) (tl : List am_C) (T : TxT) (D : BdT) (r : RdT) (b : BdT) (x1 : Int32) (x2 : Int32) (o : am_O) : ((Unit)) ⊕ (Int32) → Prop
  | (.inl ()) => am_ev 1 k_Board_attacked (51, [.ref 114, .int x1, .int x2, am_ju, am_ju, am_ju, am_ju, am_ju], [], (zl sn sx, xa c0 T D r b tl, M, q)) o
  | .inr ov => o = (.inl (some (.int ov)), (zl sn sx, xa c0 T D r b tl, M, q))
def x_Board_attacked_B_53 (sn : Nat) (sx : Nat → Int32) (M : List am_C) (q : Nat × Nat) (c0 : am_C) (tl : List am_C) (T : TxT) (D : BdT) (r : RdT) (b : BdT) (x1 : Int32) (x2 : Int32) (o : am_O) : Int32 → Prop
  | ov => o = (.inl (some (.int ov)), (zl sn sx, xa c0 T D r b tl, M, q))
theorem sj_Board_attacked_B_45 {fu : Nat} {sn : Nat} {sx : Nat → Int32} {M : List am_C} {q : Nat × Nat} {c0 : am_C} {tl : List am_C} {T : TxT} {D : BdT} {r : RdT} {b : BdT} {x1 : Int32} {x2 : Int32} {x3 : Int32} {o : am_O} {e : ((Unit)) ⊕ (Int32)} {gg : Int32 → Option (((Unit)) ⊕ (Int32))} (hx : x_Board_attacked_B_3 sn sx M q c0 tl T D r b x1 x2 o e) (hg : ∀ (x3 : Int32), gg x3 = some e → am_ev 1 k_Board_attacked (3, [.ref 114, .int x1, .int x2, .int x3, am_ju, am_ju, am_ju, am_ju], [], (zl sn sx, xa c0 T D r b tl, M, q)) o) (hM : j_Board_attacked_45 fu gg b x1 x2 x3 = some e) : am_ev 1 k_Board_attacked (45, [.ref 114, .int x1, .int x2, .int x3, am_ju, am_ju, am_ju, am_ju], [], (zl sn sx, xa c0 T D r b tl, M, q)) o := by
  unfold j_Board_attacked_45 at hM
  refine am_ev.kg 2 (pc' := 3) (lv' := [.ref 114, .int x1, .int x2, .int (x3 + (1 : Int32)), am_ju, am_ju, am_ju, am_ju]) (st' := []) (h' := (zl sn sx, xa c0 T D r b tl, M, q)) (fun _ _ => rfl) ?_
  exact hg _ hM
theorem sb_Board_attacked_B_75 {fu : Nat} {sn : Nat} {sx : Nat → Int32} {M : List am_C} {q : Nat × Nat} {c0 : am_C} {tl : List am_C} {T : TxT} {D : BdT} {r : RdT} {b : BdT} {x1 : Int32} {x2 : Int32} {x3 : Int32} {o : am_O} {e : (Int32 × Int32) ⊕ (Unit)} {gg : Int32 → Int32 → Option ((Int32 × Int32) ⊕ (Unit))} (hx : x_Board_attacked_B_75 sn sx M q c0 tl T D r b x1 x2 x3 o e) (hg : ∀ (x4 : Int32) (x5 : Int32), gg x4 x5 = some e → am_ev 1 k_Board_attacked (75, [.ref 114, .int x1, .int x2, .int x3, .int x4, .int x5, am_ju, am_ju], [], (zl sn sx, xa c0 T D r b tl, M, q)) o) {x4 : Int32} {x5 : Int32} (hM : b_Board_attacked_75 fu b x1 x2 x3 gg x4 x5 = some e) : am_ev 1 k_Board_attacked (75, [.ref 114, .int x1, .int x2, .int x3, .int x4, .int x5, am_ju, am_ju], [], (zl sn sx, xa c0 T D r b tl, M, q)) o := by
  unfold b_Board_attacked_75 at hM
  rcases am_if hM with ⟨c1, hM⟩ | ⟨c1, hM⟩
  · refine am_ev.kt 3 162 82 [.ref 114, .int x1, .int x2, .int x3, .int x4, .int x5, am_ju, am_ju] [] (zl sn sx, xa c0 T D r b tl, M, q) c1 (fun _ _ => rfl) ?_
    refine am_ev.wk (lv' := [.ref 114, .int x1, .int x2, .int x3, am_ju, am_ju, am_ju, am_ju]) (am_lc (Or.inr rfl) (am_lc (Or.inr rfl) (am_lc (Or.inr rfl) (am_lc (Or.inr rfl) (am_lc (Or.inl rfl) (am_lc (Or.inl rfl) (am_lc (Or.inr rfl) (am_lc (Or.inr rfl) am_ln)))))))) ?_
    cases hM
    exact hx
  · refine am_ev.ke 3 162 82 [.ref 114, .int x1, .int x2, .int x3, .int x4, .int x5, am_ju, am_ju] [] (zl sn sx, xa c0 T D r b tl, M, q) c1 (fun _ _ => rfl) ?_
    rcases am_if hM with ⟨c2, hM⟩ | ⟨c2, hM⟩
    · refine am_ev.kt 2 162 87 [.ref 114, .int x1, .int x2, .int x3, .int x4, .int x5, am_ju, am_ju] [] (zl sn sx, xa c0 T D r b tl, M, q) c2 (fun _ _ => rfl) ?_
      refine am_ev.wk (lv' := [.ref 114, .int x1, .int x2, .int x3, am_ju, am_ju, am_ju, am_ju]) (am_lc (Or.inr rfl) (am_lc (Or.inr rfl) (am_lc (Or.inr rfl) (am_lc (Or.inr rfl) (am_lc (Or.inl rfl) (am_lc (Or.inl rfl) (am_lc (Or.inr rfl) (am_lc (Or.inr rfl) am_ln)))))))) ?_
      cases hM
      exact hx
    · refine am_ev.ke 2 162 87 [.ref 114, .int x1, .int x2, .int x3, .int x4, .int x5, am_ju, am_ju] [] (zl sn sx, xa c0 T D r b tl, M, q) c2 (fun _ _ => rfl) ?_
      obtain ⟨c3, hM⟩ := am_ifn hM
      refine am_ev.kc 4 94 [.ref 114, .int x1, .int x2, .int x3, .int x4, .int x5, am_ju, am_ju] [.int ((bd_men b) (x4).toNatClampNeg)] (zl sn sx, xa c0 T D r b tl, M, q) c3 (fun _ _ => rfl) ?_
      rcases am_if hM with ⟨c4, hM⟩ | ⟨c4, hM⟩
      · refine am_ev.kt 3 142 101 [.ref 114, .int x1, .int x2, .int x3, .int x4, .int x5, .int ((bd_men b) (x4).toNatClampNeg), am_ju] [] (zl sn sx, xa c0 T D r b tl, M, q) c4 (fun _ _ => rfl) ?_
        obtain ⟨c5, hM⟩ := am_ifn hM
        refine am_ev.kc 8 154 [.ref 114, .int x1, .int x2, .int x3, .int x4, .int x5, .int ((bd_men b) (x4).toNatClampNeg), am_ju] [.int (tb_next ((((64 : Int32) * x3) + x4)).toNatClampNeg)] (zl sn sx, xa c0 T D r b tl, M, q) c5 (fun _ _ => rfl) ?_
        refine am_ev.kg 3 (pc' := 75) (lv' := [.ref 114, .int x1, .int x2, .int x3, .int (tb_next ((((64 : Int32) * x3) + x4)).toNatClampNeg), .int (x5 + (1 : Int32)), .int ((bd_men b) (x4).toNatClampNeg), am_ju]) (st' := []) (h' := (zl sn sx, xa c0 T D r b tl, M, q)) (fun _ _ => rfl) ?_
        refine am_ev.wk (lv' := [.ref 114, .int x1, .int x2, .int x3, .int (tb_next ((((64 : Int32) * x3) + x4)).toNatClampNeg), .int (x5 + (1 : Int32)), am_ju, am_ju]) (am_lc (Or.inr rfl) (am_lc (Or.inr rfl) (am_lc (Or.inr rfl) (am_lc (Or.inr rfl) (am_lc (Or.inr rfl) (am_lc (Or.inr rfl) (am_lc (Or.inl rfl) (am_lc (Or.inr rfl) am_ln)))))))) ?_
        exact hg _ _ hM
      · refine am_ev.ke 3 142 101 [.ref 114, .int x1, .int x2, .int x3, .int x4, .int x5, .int ((bd_men b) (x4).toNatClampNeg), am_ju] [] (zl sn sx, xa c0 T D r b tl, M, q) c4 (fun _ _ => rfl) ?_
        refine am_ev.wk (lv' := [.ref 114, .int x1, .int x2, .int x3, am_ju, .int x5, .int ((bd_men b) (x4).toNatClampNeg), am_ju]) (am_lc (Or.inr rfl) (am_lc (Or.inr rfl) (am_lc (Or.inr rfl) (am_lc (Or.inr rfl) (am_lc (Or.inl rfl) (am_lc (Or.inr rfl) (am_lc (Or.inr rfl) (am_lc (Or.inr rfl) am_ln)))))))) ?_
        cases hM
        exact hx
theorem sl_Board_attacked_B_75 {fu : Nat} {sn : Nat} {sx : Nat → Int32} {M : List am_C} {q : Nat × Nat} {c0 : am_C} {tl : List am_C} {T : TxT} {D : BdT} {r : RdT} {b : BdT} {x1 : Int32} {x2 : Int32} {x3 : Int32} {o : am_O} {e : (Int32 × Int32) ⊕ (Unit)} (hx : x_Board_attacked_B_75 sn sx M q c0 tl T D r b x1 x2 x3 o e) : ∀ (n : Nat) (x4 : Int32) (x5 : Int32), l_Board_attacked_75 fu b x1 x2 x3 n x4 x5 = some e → am_ev 1 k_Board_attacked (75, [.ref 114, .int x1, .int x2, .int x3, .int x4, .int x5, am_ju, am_ju], [], (zl sn sx, xa c0 T D r b tl, M, q)) o
  | 0, _, _, hM => by have h : (none : Option ((Int32 × Int32) ⊕ (Unit))) = some e := hM; cases h
  | n + 1, _, _, hM => sb_Board_attacked_B_75 hx (fun _ _ hM => sl_Board_attacked_B_75 hx n _ _ hM) hM
theorem sj_Board_attacked_B_162 {fu : Nat} {sn : Nat} {sx : Nat → Int32} {M : List am_C} {q : Nat × Nat} {c0 : am_C} {tl : List am_C} {T : TxT} {D : BdT} {r : RdT} {b : BdT} {x1 : Int32} {x2 : Int32} {x3 : Int32} {o : am_O} {e : Int32} {gg : Int32 → Option (Int32)} (hx : x_Board_attacked_B_53 sn sx M q c0 tl T D r b x1 x2 o e) (hg : ∀ (x3 : Int32), gg x3 = some e → am_ev 1 k_Board_attacked (53, [.ref 114, .int x1, .int x2, .int x3, am_ju, am_ju, am_ju, am_ju], [], (zl sn sx, xa c0 T D r b tl, M, q)) o) (hM : j_Board_attacked_162 fu gg b x1 x2 x3 = some e) : am_ev 1 k_Board_attacked (162, [.ref 114, .int x1, .int x2, .int x3, am_ju, am_ju, am_ju, am_ju], [], (zl sn sx, xa c0 T D r b tl, M, q)) o := by
  unfold j_Board_attacked_162 at hM
  refine am_ev.kg 2 (pc' := 53) (lv' := [.ref 114, .int x1, .int x2, .int (x3 + (1 : Int32)), am_ju, am_ju, am_ju, am_ju]) (st' := []) (h' := (zl sn sx, xa c0 T D r b tl, M, q)) (fun _ _ => rfl) ?_
  exact hg _ hM
theorem sj_Board_attacked_B_121 {fu : Nat} {sn : Nat} {sx : Nat → Int32} {M : List am_C} {q : Nat × Nat} {c0 : am_C} {tl : List am_C} {T : TxT} {D : BdT} {r : RdT} {b : BdT} {x1 : Int32} {x2 : Int32} {x3 : Int32} {x6 : Int32} {s0 : Int32} {o : am_O} {e : Int32} {gg : Int32 → Option (Int32)} (hx : x_Board_attacked_B_53 sn sx M q c0 tl T D r b x1 x2 o e) (hg : ∀ (x3 : Int32), gg x3 = some e → am_ev 1 k_Board_attacked (53, [.ref 114, .int x1, .int x2, .int x3, am_ju, am_ju, am_ju, am_ju], [], (zl sn sx, xa c0 T D r b tl, M, q)) o) (hM : j_Board_attacked_121 fu gg b x1 x2 x3 x6 s0 = some e) : am_ev 1 k_Board_attacked (121, [.ref 114, .int x1, .int x2, .int x3, am_ju, am_ju, .int x6, am_ju], [.int s0], (zl sn sx, xa c0 T D r b tl, M, q)) o := by
  unfold j_Board_attacked_121 at hM
  rcases am_if hM with ⟨c6, hM⟩ | ⟨c6, hM⟩
  · refine am_ev.kt 6 162 131 [.ref 114, .int x1, .int x2, .int x3, am_ju, am_ju, .int x6, .int s0] [] (zl sn sx, xa c0 T D r b tl, M, q) c6 (fun _ _ => rfl) ?_
    refine am_ev.wk (lv' := [.ref 114, .int x1, .int x2, .int x3, am_ju, am_ju, am_ju, am_ju]) (am_lc (Or.inr rfl) (am_lc (Or.inr rfl) (am_lc (Or.inr rfl) (am_lc (Or.inr rfl) (am_lc (Or.inr rfl) (am_lc (Or.inr rfl) (am_lc (Or.inl rfl) (am_lc (Or.inl rfl) am_ln)))))))) ?_
    exact sj_Board_attacked_B_162 hx hg hM
  · refine am_ev.ke 6 162 131 [.ref 114, .int x1, .int x2, .int x3, am_ju, am_ju, .int x6, .int s0] [] (zl sn sx, xa c0 T D r b tl, M, q) c6 (fun _ _ => rfl) ?_
    rcases am_if hM with ⟨c7, hM⟩ | ⟨c7, hM⟩
    · refine am_ev.kt 6 162 140 [.ref 114, .int x1, .int x2, .int x3, am_ju, am_ju, .int x6, .int s0] [] (zl sn sx, xa c0 T D r b tl, M, q) c7 (fun _ _ => rfl) ?_
      refine am_ev.wk (lv' := [.ref 114, .int x1, .int x2, .int x3, am_ju, am_ju, am_ju, am_ju]) (am_lc (Or.inr rfl) (am_lc (Or.inr rfl) (am_lc (Or.inr rfl) (am_lc (Or.inr rfl) (am_lc (Or.inr rfl) (am_lc (Or.inr rfl) (am_lc (Or.inl rfl) (am_lc (Or.inl rfl) am_ln)))))))) ?_
      exact sj_Board_attacked_B_162 hx hg hM
    · refine am_ev.ke 6 162 140 [.ref 114, .int x1, .int x2, .int x3, am_ju, am_ju, .int x6, .int s0] [] (zl sn sx, xa c0 T D r b tl, M, q) c7 (fun _ _ => rfl) ?_
      cases hM
      cases hx
      exact am_ev.kf 2 (fun _ _ => rfl)
theorem sb_Board_attacked_B_3 {fu : Nat} {sn : Nat} {sx : Nat → Int32} {M : List am_C} {q : Nat × Nat} {c0 : am_C} {tl : List am_C} {T : TxT} {D : BdT} {r : RdT} {b : BdT} {x1 : Int32} {x2 : Int32} {o : am_O} {e : ((Unit)) ⊕ (Int32)} {gg : Int32 → Option (((Unit)) ⊕ (Int32))} (hx : x_Board_attacked_B_3 sn sx M q c0 tl T D r b x1 x2 o e) (hg : ∀ (x3 : Int32), gg x3 = some e → am_ev 1 k_Board_attacked (3, [.ref 114, .int x1, .int x2, .int x3, am_ju, am_ju, am_ju, am_ju], [], (zl sn sx, xa c0 T D r b tl, M, q)) o) {x3 : Int32} (hM : b_Board_attacked_3 fu b x1 x2 gg x3 = some e) : am_ev 1 k_Board_attacked (3, [.ref 114, .int x1, .int x2, .int x3, am_ju, am_ju, am_ju, am_ju], [], (zl sn sx, xa c0 T D r b tl, M, q)) o := by
  unfold b_Board_attacked_3 at hM
  rcases am_if hM with ⟨c8, hM⟩ | ⟨c8, hM⟩
  · refine am_ev.kt 3 51 9 [.ref 114, .int x1, .int x2, .int x3, am_ju, am_ju, am_ju, am_ju] [] (zl sn sx, xa c0 T D r b tl, M, q) c8 (fun _ _ => rfl) ?_
    refine am_ev.wk (lv' := [.ref 114, .int x1, .int x2, am_ju, am_ju, am_ju, am_ju, am_ju]) (am_lc (Or.inr rfl) (am_lc (Or.inr rfl) (am_lc (Or.inr rfl) (am_lc (Or.inl rfl) (am_lc (Or.inr rfl) (am_lc (Or.inr rfl) (am_lc (Or.inr rfl) (am_lc (Or.inr rfl) am_ln)))))))) ?_
    cases hM
    exact hx
  · refine am_ev.ke 3 51 9 [.ref 114, .int x1, .int x2, .int x3, am_ju, am_ju, am_ju, am_ju] [] (zl sn sx, xa c0 T D r b tl, M, q) c8 (fun _ _ => rfl) ?_
    obtain ⟨c9, hM⟩ := am_ifn hM
    refine am_ev.kc 8 20 [.ref 114, .int x1, .int x2, .int x3, am_ju, am_ju, am_ju, am_ju] [.int (tb_next ((((64 : Int32) * x3) + x1)).toNatClampNeg)] (zl sn sx, xa c0 T D r b tl, M, q) c9 (fun _ _ => rfl) ?_
    rcases am_if hM with ⟨c10, hM⟩ | ⟨c10, hM⟩
    · refine am_ev.kt 3 45 27 [.ref 114, .int x1, .int x2, .int x3, .int (tb_next ((((64 : Int32) * x3) + x1)).toNatClampNeg), am_ju, am_ju, am_ju] [] (zl sn sx, xa c0 T D r b tl, M, q) c10 (fun _ _ => rfl) ?_
      refine am_ev.wk (lv' := [.ref 114, .int x1, .int x2, .int x3, am_ju, am_ju, am_ju, am_ju]) (am_lc (Or.inr rfl) (am_lc (Or.inr rfl) (am_lc (Or.inr rfl) (am_lc (Or.inr rfl) (am_lc (Or.inl rfl) (am_lc (Or.inr rfl) (am_lc (Or.inr rfl) (am_lc (Or.inr rfl) am_ln)))))))) ?_
      exact sj_Board_attacked_B_45 hx hg hM
    · refine am_ev.ke 3 45 27 [.ref 114, .int x1, .int x2, .int x3, .int (tb_next ((((64 : Int32) * x3) + x1)).toNatClampNeg), am_ju, am_ju, am_ju] [] (zl sn sx, xa c0 T D r b tl, M, q) c10 (fun _ _ => rfl) ?_
      obtain ⟨c11, hM⟩ := am_ifn hM
      refine am_ev.kc 4 34 [.ref 114, .int x1, .int x2, .int x3, .int (tb_next ((((64 : Int32) * x3) + x1)).toNatClampNeg), am_ju, am_ju, am_ju] [.int ((bd_men b) ((tb_next ((((64 : Int32) * x3) + x1)).toNatClampNeg)).toNatClampNeg)] (zl sn sx, xa c0 T D r b tl, M, q) c11 (fun _ _ => rfl) ?_
      rcases am_if hM with ⟨c12, hM⟩ | ⟨c12, hM⟩
      · refine am_ev.kt 6 45 43 [.ref 114, .int x1, .int x2, .int x3, .int (tb_next ((((64 : Int32) * x3) + x1)).toNatClampNeg), am_ju, am_ju, am_ju] [] (zl sn sx, xa c0 T D r b tl, M, q) c12 (fun _ _ => rfl) ?_
        refine am_ev.wk (lv' := [.ref 114, .int x1, .int x2, .int x3, am_ju, am_ju, am_ju, am_ju]) (am_lc (Or.inr rfl) (am_lc (Or.inr rfl) (am_lc (Or.inr rfl) (am_lc (Or.inr rfl) (am_lc (Or.inl rfl) (am_lc (Or.inr rfl) (am_lc (Or.inr rfl) (am_lc (Or.inr rfl) am_ln)))))))) ?_
        exact sj_Board_attacked_B_45 hx hg hM
      · refine am_ev.ke 6 45 43 [.ref 114, .int x1, .int x2, .int x3, .int (tb_next ((((64 : Int32) * x3) + x1)).toNatClampNeg), am_ju, am_ju, am_ju] [] (zl sn sx, xa c0 T D r b tl, M, q) c12 (fun _ _ => rfl) ?_
        cases hM
        cases hx
        exact am_ev.kf 2 (fun _ _ => rfl)
theorem sl_Board_attacked_B_3 {fu : Nat} {sn : Nat} {sx : Nat → Int32} {M : List am_C} {q : Nat × Nat} {c0 : am_C} {tl : List am_C} {T : TxT} {D : BdT} {r : RdT} {b : BdT} {x1 : Int32} {x2 : Int32} {o : am_O} {e : ((Unit)) ⊕ (Int32)} (hx : x_Board_attacked_B_3 sn sx M q c0 tl T D r b x1 x2 o e) : ∀ (n : Nat) (x3 : Int32), l_Board_attacked_3 fu b x1 x2 n x3 = some e → am_ev 1 k_Board_attacked (3, [.ref 114, .int x1, .int x2, .int x3, am_ju, am_ju, am_ju, am_ju], [], (zl sn sx, xa c0 T D r b tl, M, q)) o
  | 0, _, hM => by have h : (none : Option (((Unit)) ⊕ (Int32))) = some e := hM; cases h
  | n + 1, _, hM => sb_Board_attacked_B_3 hx (fun _ hM => sl_Board_attacked_B_3 hx n _ hM) hM
theorem sj_Board_attacked_B_101 {fu : Nat} {sn : Nat} {sx : Nat → Int32} {M : List am_C} {q : Nat × Nat} {c0 : am_C} {tl : List am_C} {T : TxT} {D : BdT} {r : RdT} {b : BdT} {x1 : Int32} {x2 : Int32} {x3 : Int32} {x5 : Int32} {x6 : Int32} {o : am_O} {e : Int32} {gg : Int32 → Option (Int32)} (hx : x_Board_attacked_B_53 sn sx M q c0 tl T D r b x1 x2 o e) (hg : ∀ (x3 : Int32), gg x3 = some e → am_ev 1 k_Board_attacked (53, [.ref 114, .int x1, .int x2, .int x3, am_ju, am_ju, am_ju, am_ju], [], (zl sn sx, xa c0 T D r b tl, M, q)) o) (hM : j_Board_attacked_101 fu gg b x1 x2 x3 x5 x6 = some e) : am_ev 1 k_Board_attacked (101, [.ref 114, .int x1, .int x2, .int x3, am_ju, .int x5, .int x6, am_ju], [], (zl sn sx, xa c0 T D r b tl, M, q)) o := by
  unfold j_Board_attacked_101 at hM
  rcases am_if hM with ⟨c13, hM⟩ | ⟨c13, hM⟩
  · refine am_ev.kt 2 115 106 [.ref 114, .int x1, .int x2, .int x3, am_ju, .int x5, .int x6, am_ju] [] (zl sn sx, xa c0 T D r b tl, M, q) c13 (fun _ _ => rfl) ?_
    obtain ⟨c14, hM⟩ := am_ifn hM
    refine am_ev.kc 3 121 [.ref 114, .int x1, .int x2, .int x3, am_ju, .int x5, .int x6, am_ju] [.int (tb_FAR (x6).toNatClampNeg)] (zl sn sx, xa c0 T D r b tl, M, q) c14 (fun _ _ => rfl) ?_
    refine am_ev.wk (lv' := [.ref 114, .int x1, .int x2, .int x3, am_ju, am_ju, .int x6, am_ju]) (am_lc (Or.inr rfl) (am_lc (Or.inr rfl) (am_lc (Or.inr rfl) (am_lc (Or.inr rfl) (am_lc (Or.inr rfl) (am_lc (Or.inl rfl) (am_lc (Or.inr rfl) (am_lc (Or.inr rfl) am_ln)))))))) ?_
    exact sj_Board_attacked_B_121 hx hg hM
  · refine am_ev.ke 2 115 106 [.ref 114, .int x1, .int x2, .int x3, am_ju, .int x5, .int x6, am_ju] [] (zl sn sx, xa c0 T D r b tl, M, q) c13 (fun _ _ => rfl) ?_
    obtain ⟨c15, hM⟩ := am_ifn hM
    refine am_ev.kc 3 112 [.ref 114, .int x1, .int x2, .int x3, am_ju, .int x5, .int x6, am_ju] [.int (tb_NEAR (x6).toNatClampNeg)] (zl sn sx, xa c0 T D r b tl, M, q) c15 (fun _ _ => rfl) ?_
    refine am_ev.kg 1 (pc' := 121) (lv' := [.ref 114, .int x1, .int x2, .int x3, am_ju, .int x5, .int x6, am_ju]) (st' := [.int (tb_NEAR (x6).toNatClampNeg)]) (h' := (zl sn sx, xa c0 T D r b tl, M, q)) (fun _ _ => rfl) ?_
    refine am_ev.wk (lv' := [.ref 114, .int x1, .int x2, .int x3, am_ju, am_ju, .int x6, am_ju]) (am_lc (Or.inr rfl) (am_lc (Or.inr rfl) (am_lc (Or.inr rfl) (am_lc (Or.inr rfl) (am_lc (Or.inr rfl) (am_lc (Or.inl rfl) (am_lc (Or.inr rfl) (am_lc (Or.inr rfl) am_ln)))))))) ?_
    exact sj_Board_attacked_B_121 hx hg hM
theorem sb_Board_attacked_B_53 {fu : Nat} {sn : Nat} {sx : Nat → Int32} {M : List am_C} {q : Nat × Nat} {c0 : am_C} {tl : List am_C} {T : TxT} {D : BdT} {r : RdT} {b : BdT} {x1 : Int32} {x2 : Int32} {o : am_O} {e : Int32} {gg : Int32 → Option (Int32)} (hx : x_Board_attacked_B_53 sn sx M q c0 tl T D r b x1 x2 o e) (hg : ∀ (x3 : Int32), gg x3 = some e → am_ev 1 k_Board_attacked (53, [.ref 114, .int x1, .int x2, .int x3, am_ju, am_ju, am_ju, am_ju], [], (zl sn sx, xa c0 T D r b tl, M, q)) o) {x3 : Int32} (hM : b_Board_attacked_53 fu b x1 x2 gg x3 = some e) : am_ev 1 k_Board_attacked (53, [.ref 114, .int x1, .int x2, .int x3, am_ju, am_ju, am_ju, am_ju], [], (zl sn sx, xa c0 T D r b tl, M, q)) o := by
  unfold b_Board_attacked_53 at hM
  rcases am_if hM with ⟨c16, hM⟩ | ⟨c16, hM⟩
  · refine am_ev.kt 3 168 59 [.ref 114, .int x1, .int x2, .int x3, am_ju, am_ju, am_ju, am_ju] [] (zl sn sx, xa c0 T D r b tl, M, q) c16 (fun _ _ => rfl) ?_
    cases hM
    cases hx
    exact am_ev.kf 2 (fun _ _ => rfl)
  · refine am_ev.ke 3 168 59 [.ref 114, .int x1, .int x2, .int x3, am_ju, am_ju, am_ju, am_ju] [] (zl sn sx, xa c0 T D r b tl, M, q) c16 (fun _ _ => rfl) ?_
    obtain ⟨c17, hM⟩ := am_ifn hM
    refine am_ev.kc 8 70 [.ref 114, .int x1, .int x2, .int x3, am_ju, am_ju, am_ju, am_ju] [.int (tb_next ((((64 : Int32) * x3) + x1)).toNatClampNeg)] (zl sn sx, xa c0 T D r b tl, M, q) c17 (fun _ _ => rfl) ?_
    refine am_ev.kg 3 (pc' := 75) (lv' := [.ref 114, .int x1, .int x2, .int x3, .int (tb_next ((((64 : Int32) * x3) + x1)).toNatClampNeg), .int (0 : Int32), am_ju, am_ju]) (st' := []) (h' := (zl sn sx, xa c0 T D r b tl, M, q)) (fun _ _ => rfl) ?_
    obtain ⟨z, hz, hM⟩ := am_bind hM
    rcases z with z | z
    ·
      obtain ⟨x5_1, x6_1⟩ := z
      refine sl_Board_attacked_B_75 ?_ _ _ _ hz
      show am_ev 1 k_Board_attacked (101, [.ref 114, .int x1, .int x2, .int x3, am_ju, .int x5_1, .int x6_1, am_ju], [], (zl sn sx, xa c0 T D r b tl, M, q)) o
      exact sj_Board_attacked_B_101 hx hg hM
    ·
      refine sl_Board_attacked_B_75 ?_ _ _ _ hz
      show am_ev 1 k_Board_attacked (162, [.ref 114, .int x1, .int x2, .int x3, am_ju, am_ju, am_ju, am_ju], [], (zl sn sx, xa c0 T D r b tl, M, q)) o
      exact sj_Board_attacked_B_162 hx hg hM
theorem sl_Board_attacked_B_53 {fu : Nat} {sn : Nat} {sx : Nat → Int32} {M : List am_C} {q : Nat × Nat} {c0 : am_C} {tl : List am_C} {T : TxT} {D : BdT} {r : RdT} {b : BdT} {x1 : Int32} {x2 : Int32} {o : am_O} {e : Int32} (hx : x_Board_attacked_B_53 sn sx M q c0 tl T D r b x1 x2 o e) : ∀ (n : Nat) (x3 : Int32), l_Board_attacked_53 fu b x1 x2 n x3 = some e → am_ev 1 k_Board_attacked (53, [.ref 114, .int x1, .int x2, .int x3, am_ju, am_ju, am_ju, am_ju], [], (zl sn sx, xa c0 T D r b tl, M, q)) o
  | 0, _, hM => by have h : (none : Option (Int32)) = some e := hM; cases h
  | n + 1, _, hM => sb_Board_attacked_B_53 hx (fun _ hM => sl_Board_attacked_B_53 hx n _ hM) hM
theorem sj_Board_attacked_B_51 {fu : Nat} {sn : Nat} {sx : Nat → Int32} {M : List am_C} {q : Nat × Nat} {c0 : am_C} {tl : List am_C} {T : TxT} {D : BdT} {r : RdT} {b : BdT} {x1 : Int32} {x2 : Int32} {o : am_O} {e : Int32} (hx : y_Board_attacked_B sn sx M q c0 tl T D r b o e) (hM : j_Board_attacked_51 fu b x1 x2 = some e) : am_ev 1 k_Board_attacked (51, [.ref 114, .int x1, .int x2, am_ju, am_ju, am_ju, am_ju, am_ju], [], (zl sn sx, xa c0 T D r b tl, M, q)) o := by
  unfold j_Board_attacked_51 at hM
  refine am_ev.kg 2 (pc' := 53) (lv' := [.ref 114, .int x1, .int x2, .int (0 : Int32), am_ju, am_ju, am_ju, am_ju]) (st' := []) (h' := (zl sn sx, xa c0 T D r b tl, M, q)) (fun _ _ => rfl) ?_
  refine sl_Board_attacked_B_53 ?_ _ _ hM
  exact hx
theorem se_Board_attacked_B {fu : Nat} {sn : Nat} {sx : Nat → Int32} {M : List am_C} {q : Nat × Nat} {c0 : am_C} {tl : List am_C} {T : TxT} {D : BdT} {r : RdT} {b : BdT} {x1 : Int32} {x2 : Int32} {o : am_O} {e : Int32} (hx : y_Board_attacked_B sn sx M q c0 tl T D r b o e) (hM : f_Board_attacked fu x1 x2 b = some e) : am_ev 1 k_Board_attacked (0, [.ref 114, .int x1, .int x2, am_ju, am_ju, am_ju, am_ju, am_ju], [], (zl sn sx, xa c0 T D r b tl, M, q)) o := by
  unfold f_Board_attacked at hM
  refine am_ev.kg 2 (pc' := 3) (lv' := [.ref 114, .int x1, .int x2, .int (8 : Int32), am_ju, am_ju, am_ju, am_ju]) (st' := []) (h' := (zl sn sx, xa c0 T D r b tl, M, q)) (fun _ _ => rfl) ?_
  obtain ⟨z, hz, hM⟩ := am_bind hM
  rcases z with z | z
  ·
    refine sl_Board_attacked_B_3 ?_ _ _ hz
    show am_ev 1 k_Board_attacked (51, [.ref 114, .int x1, .int x2, am_ju, am_ju, am_ju, am_ju, am_ju], [], (zl sn sx, xa c0 T D r b tl, M, q)) o
    exact sj_Board_attacked_B_51 hx hM
  ·
    cases hM
    refine sl_Board_attacked_B_3 ?_ _ _ hz
    exact hx
theorem s_Board_attacked_B {fu : Nat} {sn : Nat} {sx : Nat → Int32} {M : List am_C} {q : Nat × Nat} {c0 : am_C} {tl : List am_C} {T : TxT} {D : BdT} {r : RdT} {b : BdT} {x1 : Int32} {x2 : Int32} {ov : Int32} (hM : f_Board_attacked fu x1 x2 b = some ov) : am_cv 2 k_Board_attacked [.ref 114, .int x1, .int x2] (zl sn sx, xa c0 T D r b tl, M, q) (.inl (some (.int ov)), (zl sn sx, xa c0 T D r b tl, M, q)) := am_cv.of rfl (se_Board_attacked_B (e := ov) (show y_Board_attacked_B sn sx M q c0 tl T D r b _ ov from rfl) hM)
def y_Board_pawnAttacks_B (sn : Nat) (sx : Nat → Int32) (M : List am_C) (q : Nat × Nat) (c0 : am_C) (tl : List am_C) (T : TxT) (D : BdT) (r : RdT) (b : BdT) (o : am_O) : Int32 → Prop
  | ov => o = (.inl (some (.int ov)), (zl sn sx, xa c0 T D r b tl, M, q))
theorem sj_Board_pawnAttacks_B_65 {sn : Nat} {sx : Nat → Int32} {M : List am_C} {q : Nat × Nat} {c0 : am_C} {tl : List am_C} {T : TxT} {D : BdT} {r : RdT} {b : BdT} {x3 : Int32} {x6 : Int32} {o : am_O} {e : Int32} (hx : y_Board_pawnAttacks_B sn sx M q c0 tl T D r b o e) (hM : j_Board_pawnAttacks_65 b x3 x6 = some e) : am_ev 1 k_Board_pawnAttacks (65, [.ref 114, am_ju, am_ju, .int x3, am_ju, am_ju, .int x6], [], (zl sn sx, xa c0 T D r b tl, M, q)) o := by
  unfold j_Board_pawnAttacks_65 at hM
  rcases am_if hM with ⟨c1, hM⟩ | ⟨c1, hM⟩
  · refine am_ev.kt 2 85 70 [.ref 114, am_ju, am_ju, .int x3, am_ju, am_ju, .int x6] [] (zl sn sx, xa c0 T D r b tl, M, q) c1 (fun _ _ => rfl) ?_
    cases hM
    cases hx
    exact am_ev.kf 2 (fun _ _ => rfl)
  · refine am_ev.ke 2 85 70 [.ref 114, am_ju, am_ju, .int x3, am_ju, am_ju, .int x6] [] (zl sn sx, xa c0 T D r b tl, M, q) c1 (fun _ _ => rfl) ?_
    obtain ⟨c2, hM⟩ := am_ifn hM
    refine am_ev.kc 4 77 [.ref 114, am_ju, am_ju, .int x3, am_ju, am_ju, .int x6] [.int ((bd_men b) (x6).toNatClampNeg)] (zl sn sx, xa c0 T D r b tl, M, q) c2 (fun _ _ => rfl) ?_
    rcases am_if hM with ⟨c3, hM⟩ | ⟨c3, hM⟩
    · refine am_ev.kt 2 85 81 [.ref 114, am_ju, am_ju, .int x3, am_ju, am_ju, .int x6] [] (zl sn sx, xa c0 T D r b tl, M, q) c3 (fun _ _ => rfl) ?_
      cases hM
      cases hx
      exact am_ev.kf 2 (fun _ _ => rfl)
    · refine am_ev.ke 2 85 81 [.ref 114, am_ju, am_ju, .int x3, am_ju, am_ju, .int x6] [] (zl sn sx, xa c0 T D r b tl, M, q) c3 (fun _ _ => rfl) ?_
      cases hM
      cases hx
      exact am_ev.kf 3 (fun _ _ => rfl)
theorem sj_Board_pawnAttacks_B_17 {sn : Nat} {sx : Nat → Int32} {M : List am_C} {q : Nat × Nat} {c0 : am_C} {tl : List am_C} {T : TxT} {D : BdT} {r : RdT} {b : BdT} {x1 : Int32} {x3 : Int32} {s0 : Int32} {o : am_O} {e : Int32} (hx : y_Board_pawnAttacks_B sn sx M q c0 tl T D r b o e) (hM : j_Board_pawnAttacks_17 b x1 x3 s0 = some e) : am_ev 1 k_Board_pawnAttacks (17, [.ref 114, .int x1, am_ju, .int x3, am_ju, am_ju, am_ju], [.int s0], (zl sn sx, xa c0 T D r b tl, M, q)) o := by
  unfold j_Board_pawnAttacks_17 at hM
  obtain ⟨c4, hM⟩ := am_ifn hM
  refine am_ev.kc 9 31 [.ref 114, .int x1, am_ju, .int x3, .int s0, am_ju, am_ju] [.int (tb_next ((((64 : Int32) * s0) + x1)).toNatClampNeg)] (zl sn sx, xa c0 T D r b tl, M, q) c4 (fun _ _ => rfl) ?_
  obtain ⟨c5, hM⟩ := am_ifn hM
  refine am_ev.kc 11 47 [.ref 114, .int x1, am_ju, .int x3, .int s0, .int (tb_next ((((64 : Int32) * s0) + x1)).toNatClampNeg), am_ju] [.int (tb_next ((((64 : Int32) * (s0 + (1 : Int32))) + x1)).toNatClampNeg)] (zl sn sx, xa c0 T D r b tl, M, q) c5 (fun _ _ => rfl) ?_
  rcases am_if hM with ⟨c6, hM⟩ | ⟨c6, hM⟩
  · refine am_ev.kt 3 65 54 [.ref 114, .int x1, am_ju, .int x3, .int s0, .int (tb_next ((((64 : Int32) * s0) + x1)).toNatClampNeg), .int (tb_next ((((64 : Int32) * (s0 + (1 : Int32))) + x1)).toNatClampNeg)] [] (zl sn sx, xa c0 T D r b tl, M, q) c6 (fun _ _ => rfl) ?_
    refine am_ev.wk (lv' := [.ref 114, am_ju, am_ju, .int x3, am_ju, am_ju, .int (tb_next ((((64 : Int32) * (s0 + (1 : Int32))) + x1)).toNatClampNeg)]) (am_lc (Or.inr rfl) (am_lc (Or.inl rfl) (am_lc (Or.inr rfl) (am_lc (Or.inr rfl) (am_lc (Or.inl rfl) (am_lc (Or.inl rfl) (am_lc (Or.inr rfl) am_ln))))))) ?_
    exact sj_Board_pawnAttacks_B_65 hx hM
  · refine am_ev.ke 3 65 54 [.ref 114, .int x1, am_ju, .int x3, .int s0, .int (tb_next ((((64 : Int32) * s0) + x1)).toNatClampNeg), .int (tb_next ((((64 : Int32) * (s0 + (1 : Int32))) + x1)).toNatClampNeg)] [] (zl sn sx, xa c0 T D r b tl, M, q) c6 (fun _ _ => rfl) ?_
    obtain ⟨c7, hM⟩ := am_ifn hM
    refine am_ev.kc 4 61 [.ref 114, .int x1, am_ju, .int x3, .int s0, .int (tb_next ((((64 : Int32) * s0) + x1)).toNatClampNeg), .int (tb_next ((((64 : Int32) * (s0 + (1 : Int32))) + x1)).toNatClampNeg)] [.int ((bd_men b) ((tb_next ((((64 : Int32) * s0) + x1)).toNatClampNeg)).toNatClampNeg)] (zl sn sx, xa c0 T D r b tl, M, q) c7 (fun _ _ => rfl) ?_
    rcases am_if hM with ⟨c8, hM⟩ | ⟨c8, hM⟩
    · refine am_ev.kt 2 81 65 [.ref 114, .int x1, am_ju, .int x3, .int s0, .int (tb_next ((((64 : Int32) * s0) + x1)).toNatClampNeg), .int (tb_next ((((64 : Int32) * (s0 + (1 : Int32))) + x1)).toNatClampNeg)] [] (zl sn sx, xa c0 T D r b tl, M, q) c8 (fun _ _ => rfl) ?_
      cases hM
      cases hx
      exact am_ev.kf 3 (fun _ _ => rfl)
    · refine am_ev.ke 2 81 65 [.ref 114, .int x1, am_ju, .int x3, .int s0, .int (tb_next ((((64 : Int32) * s0) + x1)).toNatClampNeg), .int (tb_next ((((64 : Int32) * (s0 + (1 : Int32))) + x1)).toNatClampNeg)] [] (zl sn sx, xa c0 T D r b tl, M, q) c8 (fun _ _ => rfl) ?_
      refine am_ev.wk (lv' := [.ref 114, am_ju, am_ju, .int x3, am_ju, am_ju, .int (tb_next ((((64 : Int32) * (s0 + (1 : Int32))) + x1)).toNatClampNeg)]) (am_lc (Or.inr rfl) (am_lc (Or.inl rfl) (am_lc (Or.inr rfl) (am_lc (Or.inr rfl) (am_lc (Or.inl rfl) (am_lc (Or.inl rfl) (am_lc (Or.inr rfl) am_ln))))))) ?_
      exact sj_Board_pawnAttacks_B_65 hx hM
theorem se_Board_pawnAttacks_B {sn : Nat} {sx : Nat → Int32} {M : List am_C} {q : Nat × Nat} {c0 : am_C} {tl : List am_C} {T : TxT} {D : BdT} {r : RdT} {b : BdT} {x1 : Int32} {x2 : Int32} {o : am_O} {e : Int32} (hx : y_Board_pawnAttacks_B sn sx M q c0 tl T D r b o e) (hM : f_Board_pawnAttacks x1 x2 b = some e) : am_ev 1 k_Board_pawnAttacks (0, [.ref 114, .int x1, .int x2, am_ju, am_ju, am_ju, am_ju], [], (zl sn sx, xa c0 T D r b tl, M, q)) o := by
  unfold f_Board_pawnAttacks at hM
  rcases am_if hM with ⟨c9, hM⟩ | ⟨c9, hM⟩
  · refine am_ev.kt 8 16 11 [.ref 114, .int x1, .int x2, .int ((1 : Int32) + ((8 : Int32) * x2)), am_ju, am_ju, am_ju] [] (zl sn sx, xa c0 T D r b tl, M, q) c9 (fun _ _ => rfl) ?_
    refine am_ev.kg 1 (pc' := 17) (lv' := [.ref 114, .int x1, .int x2, .int ((1 : Int32) + ((8 : Int32) * x2)), am_ju, am_ju, am_ju]) (st' := [.int (4 : Int32)]) (h' := (zl sn sx, xa c0 T D r b tl, M, q)) (fun _ _ => rfl) ?_
    refine am_ev.wk (lv' := [.ref 114, .int x1, am_ju, .int ((1 : Int32) + ((8 : Int32) * x2)), am_ju, am_ju, am_ju]) (am_lc (Or.inr rfl) (am_lc (Or.inr rfl) (am_lc (Or.inl rfl) (am_lc (Or.inr rfl) (am_lc (Or.inr rfl) (am_lc (Or.inr rfl) (am_lc (Or.inr rfl) am_ln))))))) ?_
    exact sj_Board_pawnAttacks_B_17 hx hM
  · refine am_ev.ke 8 16 11 [.ref 114, .int x1, .int x2, .int ((1 : Int32) + ((8 : Int32) * x2)), am_ju, am_ju, am_ju] [] (zl sn sx, xa c0 T D r b tl, M, q) c9 (fun _ _ => rfl) ?_
    refine am_ev.kg 2 (pc' := 17) (lv' := [.ref 114, .int x1, .int x2, .int ((1 : Int32) + ((8 : Int32) * x2)), am_ju, am_ju, am_ju]) (st' := [.int (6 : Int32)]) (h' := (zl sn sx, xa c0 T D r b tl, M, q)) (fun _ _ => rfl) ?_
    refine am_ev.wk (lv' := [.ref 114, .int x1, am_ju, .int ((1 : Int32) + ((8 : Int32) * x2)), am_ju, am_ju, am_ju]) (am_lc (Or.inr rfl) (am_lc (Or.inr rfl) (am_lc (Or.inl rfl) (am_lc (Or.inr rfl) (am_lc (Or.inr rfl) (am_lc (Or.inr rfl) (am_lc (Or.inr rfl) am_ln))))))) ?_
    exact sj_Board_pawnAttacks_B_17 hx hM
theorem s_Board_pawnAttacks_B {sn : Nat} {sx : Nat → Int32} {M : List am_C} {q : Nat × Nat} {c0 : am_C} {tl : List am_C} {T : TxT} {D : BdT} {r : RdT} {b : BdT} {x1 : Int32} {x2 : Int32} {ov : Int32} (hM : f_Board_pawnAttacks x1 x2 b = some ov) : am_cv 2 k_Board_pawnAttacks [.ref 114, .int x1, .int x2] (zl sn sx, xa c0 T D r b tl, M, q) (.inl (some (.int ov)), (zl sn sx, xa c0 T D r b tl, M, q)) := am_cv.of rfl (se_Board_pawnAttacks_B (e := ov) (show y_Board_pawnAttacks_B sn sx M q c0 tl T D r b _ ov from rfl) hM)
def y_Board_put_B (sn : Nat) (sx : Nat → Int32) (M : List am_C) (q : Nat × Nat) (c0 : am_C) (tl : List am_C) (T : TxT) (D : BdT) (r : RdT) (o : am_O) : BdT → Prop
  | ob => o = (.inl none, (zl sn sx, xa c0 T D r ob tl, M, q))
theorem se_Board_put_B {sn : Nat} {sx : Nat → Int32} {M : List am_C} {q : Nat × Nat} {c0 : am_C} {tl : List am_C} {T : TxT} {D : BdT} {r : RdT} {b : BdT} {x1 : Int32} {x2 : Int32} {o : am_O} {e : BdT} (hx : y_Board_put_B sn sx M q c0 tl T D r o e) (hM : f_Board_put x1 x2 b = some e) : am_ev 1 k_Board_put (0, [.ref 114, .int x1, .int x2], [], (zl sn sx, xa c0 T D r b tl, M, q)) o := by
  unfold f_Board_put at hM
  obtain ⟨c1, hM⟩ := am_ifn hM
  refine am_ev.kc 5 7 [.ref 114, .int x1, .int x2] [] (zl sn sx, xa c0 T D r ((upd (bd_men b) (x1).toNatClampNeg x2), (bd_held b), (bd_kings b), (bd_side b), (bd_rights b), (bd_passed b), (bd_depth b), (bd_made b), (bd_taken b), (bd_takenAt b), (bd_rightsBefore b), (bd_passedBefore b)) tl, M, q) c1 (fun _ _ => rfl) ?_
  obtain ⟨c2, hM⟩ := am_ifn hM
  refine am_ev.kc 7 16 [.ref 114, .int x1, .int x2] [.long ((bd_held b) ((x2 >>> ((3 : Int32) &&& 31))).toNatClampNeg), .int (x2 >>> ((3 : Int32) &&& 31)), .ref 116] (zl sn sx, xa c0 T D r ((upd (bd_men b) (x1).toNatClampNeg x2), (bd_held b), (bd_kings b), (bd_side b), (bd_rights b), (bd_passed b), (bd_depth b), (bd_made b), (bd_taken b), (bd_takenAt b), (bd_rightsBefore b), (bd_passedBefore b)) tl, M, q) c2 (fun _ _ => rfl) ?_
  obtain ⟨c3, hM⟩ := am_ifn hM
  refine am_ev.kc 5 21 [.ref 114, .int x1, .int x2] [] (zl sn sx, xa c0 T D r ((upd (bd_men b) (x1).toNatClampNeg x2), (vp_updL (bd_held b) ((x2 >>> ((3 : Int32) &&& 31))).toNatClampNeg (((bd_held b) ((x2 >>> ((3 : Int32) &&& 31))).toNatClampNeg) ||| (am_shl (1 : Int64) x1))), (bd_kings b), (bd_side b), (bd_rights b), (bd_passed b), (bd_depth b), (bd_made b), (bd_taken b), (bd_takenAt b), (bd_rightsBefore b), (bd_passedBefore b)) tl, M, q) c3 (fun _ _ => rfl) ?_
  cases hM
  cases hx
  exact am_ev.kf 1 (fun _ _ => rfl)
theorem s_Board_put_B {sn : Nat} {sx : Nat → Int32} {M : List am_C} {q : Nat × Nat} {c0 : am_C} {tl : List am_C} {T : TxT} {D : BdT} {r : RdT} {b : BdT} {x1 : Int32} {x2 : Int32} {ob : BdT} (hM : f_Board_put x1 x2 b = some ob) : am_cv 2 k_Board_put [.ref 114, .int x1, .int x2] (zl sn sx, xa c0 T D r b tl, M, q) (.inl none, (zl sn sx, xa c0 T D r ob tl, M, q)) := am_cv.of rfl (se_Board_put_B (e := ob) (show y_Board_put_B sn sx M q c0 tl T D r _ ob from rfl) hM)
def y_Board_lift_B (sn : Nat) (sx : Nat → Int32) (M : List am_C) (q : Nat × Nat) (c0 : am_C) (tl : List am_C) (T : TxT) (D : BdT) (r : RdT) (o : am_O) : BdT → Prop
  | ob => o = (.inl none, (zl sn sx, xa c0 T D r ob tl, M, q))
theorem se_Board_lift_B {sn : Nat} {sx : Nat → Int32} {M : List am_C} {q : Nat × Nat} {c0 : am_C} {tl : List am_C} {T : TxT} {D : BdT} {r : RdT} {b : BdT} {x1 : Int32} {o : am_O} {e : BdT} (hx : y_Board_lift_B sn sx M q c0 tl T D r o e) (hM : f_Board_lift x1 b = some e) : am_ev 1 k_Board_lift (0, [.ref 114, .int x1], [], (zl sn sx, xa c0 T D r b tl, M, q)) o := by
  unfold f_Board_lift at hM
  obtain ⟨c1, hM⟩ := am_ifn hM
  refine am_ev.kc 6 10 [.ref 114, .int x1] [.int ((bd_men b) (x1).toNatClampNeg), .ref 116] (zl sn sx, xa c0 T D r b tl, M, q) c1 (fun _ _ => rfl) ?_
  obtain ⟨c2, hM⟩ := am_ifn hM
  refine am_ev.kc 4 14 [.ref 114, .int x1] [.long ((bd_held b) ((((bd_men b) (x1).toNatClampNeg) >>> ((3 : Int32) &&& 31))).toNatClampNeg), .int (((bd_men b) (x1).toNatClampNeg) >>> ((3 : Int32) &&& 31)), .ref 116] (zl sn sx, xa c0 T D r b tl, M, q) c2 (fun _ _ => rfl) ?_
  obtain ⟨c3, hM⟩ := am_ifn hM
  refine am_ev.kc 7 23 [.ref 114, .int x1] [] (zl sn sx, xa c0 T D r ((bd_men b), (vp_updL (bd_held b) ((((bd_men b) (x1).toNatClampNeg) >>> ((3 : Int32) &&& 31))).toNatClampNeg (((bd_held b) ((((bd_men b) (x1).toNatClampNeg) >>> ((3 : Int32) &&& 31))).toNatClampNeg) &&& ((am_shl (1 : Int64) x1) ^^^ (-1 : Int64)))), (bd_kings b), (bd_side b), (bd_rights b), (bd_passed b), (bd_depth b), (bd_made b), (bd_taken b), (bd_takenAt b), (bd_rightsBefore b), (bd_passedBefore b)) tl, M, q) c3 (fun _ _ => rfl) ?_
  obtain ⟨c4, hM⟩ := am_ifn hM
  refine am_ev.kc 5 30 [.ref 114, .int x1] [] (zl sn sx, xa c0 T D r ((upd (bd_men b) (x1).toNatClampNeg (0 : Int32)), (vp_updL (bd_held b) ((((bd_men b) (x1).toNatClampNeg) >>> ((3 : Int32) &&& 31))).toNatClampNeg (((bd_held b) ((((bd_men b) (x1).toNatClampNeg) >>> ((3 : Int32) &&& 31))).toNatClampNeg) &&& ((am_shl (1 : Int64) x1) ^^^ (-1 : Int64)))), (bd_kings b), (bd_side b), (bd_rights b), (bd_passed b), (bd_depth b), (bd_made b), (bd_taken b), (bd_takenAt b), (bd_rightsBefore b), (bd_passedBefore b)) tl, M, q) c4 (fun _ _ => rfl) ?_
  cases hM
  cases hx
  exact am_ev.kf 1 (fun _ _ => rfl)
theorem s_Board_lift_B {sn : Nat} {sx : Nat → Int32} {M : List am_C} {q : Nat × Nat} {c0 : am_C} {tl : List am_C} {T : TxT} {D : BdT} {r : RdT} {b : BdT} {x1 : Int32} {ob : BdT} (hM : f_Board_lift x1 b = some ob) : am_cv 2 k_Board_lift [.ref 114, .int x1] (zl sn sx, xa c0 T D r b tl, M, q) (.inl none, (zl sn sx, xa c0 T D r ob tl, M, q)) := am_cv.of rfl (se_Board_lift_B (e := ob) (show y_Board_lift_B sn sx M q c0 tl T D r _ ob from rfl) hM)
def y_Board_castleRook_B (sn : Nat) (sx : Nat → Int32) (M : List am_C) (q : Nat × Nat) (c0 : am_C) (tl : List am_C) (T : TxT) (D : BdT) (r : RdT) (o : am_O) : BdT → Prop
  | ob => o = (.inl none, (zl sn sx, xa c0 T D r ob tl, M, q))
theorem sj_Board_castleRook_B_68 {sn : Nat} {sx : Nat → Int32} {M : List am_C} {q : Nat × Nat} {c0 : am_C} {tl : List am_C} {T : TxT} {D : BdT} {r : RdT} {b : BdT} {x3 : Int32} {x4 : Int32} {x5 : Int32} {x6 : Int32} {s1 : Int32} {o : am_O} {e : BdT} (hx : y_Board_castleRook_B sn sx M q c0 tl T D r o e) (hM : j_Board_castleRook_68 b x3 x4 x5 x6 s1 = some e) : am_ev 2 k_Board_castleRook (68, [.ref 114, am_ju, am_ju, .int x3, .int x4, .int x5, .int x6], [.int s1, .ref 114], (zl sn sx, xa c0 T D r b tl, M, q)) o := by
  unfold j_Board_castleRook_68 at hM
  obtain ⟨rr, hc, hM⟩ := am_bind hM
  obtain ⟨bg1, rfl⟩ : ∃ z, z = rr := ⟨_, rfl⟩
  refine am_ev.call rfl rfl rfl ((s_Board_lift_B hc).mono (by decide)) ?_
  show am_ev _ k_Board_castleRook (71, [.ref 114, am_ju, am_ju, .int x3, .int x4, .int x5, .int x6], [], (zl sn sx, xa c0 T D r bg1 tl, M, q)) o
  rcases am_if hM with ⟨c1, hM⟩ | ⟨c1, hM⟩
  · refine am_ev.kt 3 81 76 [.ref 114, am_ju, am_ju, .int x3, .int x4, .int x5, .int x6] [.ref 114] (zl sn sx, xa c0 T D r bg1 tl, M, q) c1 (fun _ _ => rfl) ?_
    obtain ⟨rr, hc, hM⟩ := am_bind hM
    obtain ⟨bg2, rfl⟩ : ∃ z, z = rr := ⟨_, rfl⟩
    refine am_ev.kg 2 (pc' := 85) (lv' := [.ref 114, am_ju, am_ju, .int x3, .int x4, .int x5, .int x6]) (st' := [.int x6, .int x4, .ref 114]) (h' := (zl sn sx, xa c0 T D r bg1 tl, M, q)) (fun _ _ => rfl) ?_
    refine am_ev.call rfl rfl rfl ((s_Board_put_B hc).mono (by decide)) ?_
    show am_ev _ k_Board_castleRook (88, [.ref 114, am_ju, am_ju, .int x3, .int x4, .int x5, .int x6], [], (zl sn sx, xa c0 T D r bg2 tl, M, q)) o
    cases hM
    cases hx
    exact am_ev.kf 1 (fun _ _ => rfl)
  · refine am_ev.ke 3 81 76 [.ref 114, am_ju, am_ju, .int x3, .int x4, .int x5, .int x6] [.ref 114] (zl sn sx, xa c0 T D r bg1 tl, M, q) c1 (fun _ _ => rfl) ?_
    obtain ⟨rr, hc, hM⟩ := am_bind hM
    obtain ⟨bg3, rfl⟩ : ∃ z, z = rr := ⟨_, rfl⟩
    refine am_ev.kg 3 (pc' := 85) (lv' := [.ref 114, am_ju, am_ju, .int x3, .int x4, .int x5, .int x6]) (st' := [.int x6, .int x5, .ref 114]) (h' := (zl sn sx, xa c0 T D r bg1 tl, M, q)) (fun _ _ => rfl) ?_
    refine am_ev.call rfl rfl rfl ((s_Board_put_B hc).mono (by decide)) ?_
    show am_ev _ k_Board_castleRook (88, [.ref 114, am_ju, am_ju, .int x3, .int x4, .int x5, .int x6], [], (zl sn sx, xa c0 T D r bg3 tl, M, q)) o
    cases hM
    cases hx
    exact am_ev.kf 1 (fun _ _ => rfl)
theorem sj_Board_castleRook_B_54 {sn : Nat} {sx : Nat → Int32} {M : List am_C} {q : Nat × Nat} {c0 : am_C} {tl : List am_C} {T : TxT} {D : BdT} {r : RdT} {b : BdT} {x3 : Int32} {x4 : Int32} {x5 : Int32} {s0 : Int32} {o : am_O} {e : BdT} (hx : y_Board_castleRook_B sn sx M q c0 tl T D r o e) (hM : j_Board_castleRook_54 b x3 x4 x5 s0 = some e) : am_ev 2 k_Board_castleRook (54, [.ref 114, am_ju, am_ju, .int x3, .int x4, .int x5, am_ju], [.int s0], (zl sn sx, xa c0 T D r b tl, M, q)) o := by
  unfold j_Board_castleRook_54 at hM
  rcases am_if hM with ⟨c2, hM⟩ | ⟨c2, hM⟩
  · refine am_ev.kt 4 66 61 [.ref 114, am_ju, am_ju, .int x3, .int x4, .int x5, .int s0] [.ref 114] (zl sn sx, xa c0 T D r b tl, M, q) c2 (fun _ _ => rfl) ?_
    refine am_ev.kg 1 (pc' := 68) (lv' := [.ref 114, am_ju, am_ju, .int x3, .int x4, .int x5, .int s0]) (st' := [.int x5, .ref 114]) (h' := (zl sn sx, xa c0 T D r b tl, M, q)) (fun _ _ => rfl) ?_
    exact sj_Board_castleRook_B_68 hx hM
  · refine am_ev.ke 4 66 61 [.ref 114, am_ju, am_ju, .int x3, .int x4, .int x5, .int s0] [.ref 114] (zl sn sx, xa c0 T D r b tl, M, q) c2 (fun _ _ => rfl) ?_
    refine am_ev.kg 2 (pc' := 68) (lv' := [.ref 114, am_ju, am_ju, .int x3, .int x4, .int x5, .int s0]) (st' := [.int x4, .ref 114]) (h' := (zl sn sx, xa c0 T D r b tl, M, q)) (fun _ _ => rfl) ?_
    exact sj_Board_castleRook_B_68 hx hM
theorem sj_Board_castleRook_B_23 {sn : Nat} {sx : Nat → Int32} {M : List am_C} {q : Nat × Nat} {c0 : am_C} {tl : List am_C} {T : TxT} {D : BdT} {r : RdT} {b : BdT} {x1 : Int32} {x2 : Int32} {x3 : Int32} {s0 : Int32} {s1 : Int32} {o : am_O} {e : BdT} (hx : y_Board_castleRook_B sn sx M q c0 tl T D r o e) (hM : j_Board_castleRook_23 b x1 x2 x3 s0 s1 = some e) : am_ev 2 k_Board_castleRook (23, [.ref 114, .int x1, .int x2, .int x3, am_ju, am_ju, am_ju], [.int s1, .int s0], (zl sn sx, xa c0 T D r b tl, M, q)) o := by
  unfold j_Board_castleRook_23 at hM
  rcases am_if hM with ⟨c3, hM⟩ | ⟨c3, hM⟩
  · refine am_ev.kt 10 47 37 [.ref 114, .int x1, .int x2, .int x3, .int (s0 + s1), .int ((x1 + x2) >>> ((1 : Int32) &&& 31)), am_ju] [] (zl sn sx, xa c0 T D r b tl, M, q) c3 (fun _ _ => rfl) ?_
    obtain ⟨c4, hM⟩ := am_ifn hM
    refine am_ev.kc 4 54 [.ref 114, .int x1, .int x2, .int x3, .int (s0 + s1), .int ((x1 + x2) >>> ((1 : Int32) &&& 31)), am_ju] [.int ((bd_men b) (((x1 + x2) >>> ((1 : Int32) &&& 31))).toNatClampNeg)] (zl sn sx, xa c0 T D r b tl, M, q) c4 (fun _ _ => rfl) ?_
    refine am_ev.wk (lv' := [.ref 114, am_ju, am_ju, .int x3, .int (s0 + s1), .int ((x1 + x2) >>> ((1 : Int32) &&& 31)), am_ju]) (am_lc (Or.inr rfl) (am_lc (Or.inl rfl) (am_lc (Or.inl rfl) (am_lc (Or.inr rfl) (am_lc (Or.inr rfl) (am_lc (Or.inr rfl) (am_lc (Or.inr rfl) am_ln))))))) ?_
    exact sj_Board_castleRook_B_54 hx hM
  · refine am_ev.ke 10 47 37 [.ref 114, .int x1, .int x2, .int x3, .int (s0 + s1), .int ((x1 + x2) >>> ((1 : Int32) &&& 31)), am_ju] [] (zl sn sx, xa c0 T D r b tl, M, q) c3 (fun _ _ => rfl) ?_
    obtain ⟨c5, hM⟩ := am_ifn hM
    refine am_ev.kc 4 44 [.ref 114, .int x1, .int x2, .int x3, .int (s0 + s1), .int ((x1 + x2) >>> ((1 : Int32) &&& 31)), am_ju] [.int ((bd_men b) ((s0 + s1)).toNatClampNeg)] (zl sn sx, xa c0 T D r b tl, M, q) c5 (fun _ _ => rfl) ?_
    refine am_ev.kg 1 (pc' := 54) (lv' := [.ref 114, .int x1, .int x2, .int x3, .int (s0 + s1), .int ((x1 + x2) >>> ((1 : Int32) &&& 31)), am_ju]) (st' := [.int ((bd_men b) ((s0 + s1)).toNatClampNeg)]) (h' := (zl sn sx, xa c0 T D r b tl, M, q)) (fun _ _ => rfl) ?_
    refine am_ev.wk (lv' := [.ref 114, am_ju, am_ju, .int x3, .int (s0 + s1), .int ((x1 + x2) >>> ((1 : Int32) &&& 31)), am_ju]) (am_lc (Or.inr rfl) (am_lc (Or.inl rfl) (am_lc (Or.inl rfl) (am_lc (Or.inr rfl) (am_lc (Or.inr rfl) (am_lc (Or.inr rfl) (am_lc (Or.inr rfl) am_ln))))))) ?_
    exact sj_Board_castleRook_B_54 hx hM
theorem se_Board_castleRook_B {sn : Nat} {sx : Nat → Int32} {M : List am_C} {q : Nat × Nat} {c0 : am_C} {tl : List am_C} {T : TxT} {D : BdT} {r : RdT} {b : BdT} {x1 : Int32} {x2 : Int32} {x3 : Int32} {o : am_O} {e : BdT} (hx : y_Board_castleRook_B sn sx M q c0 tl T D r o e) (hM : f_Board_castleRook x1 x2 x3 b = some e) : am_ev 2 k_Board_castleRook (0, [.ref 114, .int x1, .int x2, .int x3, am_ju, am_ju, am_ju], [], (zl sn sx, xa c0 T D r b tl, M, q)) o := by
  unfold f_Board_castleRook at hM
  rcases am_if hM with ⟨c6, hM⟩ | ⟨c6, hM⟩
  · refine am_ev.kt 6 11 10 [.ref 114, .int x1, .int x2, .int x3, am_ju, am_ju, am_ju] [] (zl sn sx, xa c0 T D r b tl, M, q) c6 (fun _ _ => rfl) ?_
    rcases am_if hM with ⟨c7, hM⟩ | ⟨c7, hM⟩
    · refine am_ev.kt 4 21 17 [.ref 114, .int x1, .int x2, .int x3, am_ju, am_ju, am_ju] [.int x1] (zl sn sx, xa c0 T D r b tl, M, q) c7 (fun _ _ => rfl) ?_
      refine am_ev.kg 1 (pc' := 23) (lv' := [.ref 114, .int x1, .int x2, .int x3, am_ju, am_ju, am_ju]) (st' := [.int (-4 : Int32), .int x1]) (h' := (zl sn sx, xa c0 T D r b tl, M, q)) (fun _ _ => rfl) ?_
      exact sj_Board_castleRook_B_23 hx hM
    · refine am_ev.ke 4 21 17 [.ref 114, .int x1, .int x2, .int x3, am_ju, am_ju, am_ju] [.int x1] (zl sn sx, xa c0 T D r b tl, M, q) c7 (fun _ _ => rfl) ?_
      refine am_ev.kg 2 (pc' := 23) (lv' := [.ref 114, .int x1, .int x2, .int x3, am_ju, am_ju, am_ju]) (st' := [.int (3 : Int32), .int x1]) (h' := (zl sn sx, xa c0 T D r b tl, M, q)) (fun _ _ => rfl) ?_
      exact sj_Board_castleRook_B_23 hx hM
  · refine am_ev.ke 6 11 10 [.ref 114, .int x1, .int x2, .int x3, am_ju, am_ju, am_ju] [] (zl sn sx, xa c0 T D r b tl, M, q) c6 (fun _ _ => rfl) ?_
    cases hM
    cases hx
    exact am_ev.kf 1 (fun _ _ => rfl)
theorem s_Board_castleRook_B {sn : Nat} {sx : Nat → Int32} {M : List am_C} {q : Nat × Nat} {c0 : am_C} {tl : List am_C} {T : TxT} {D : BdT} {r : RdT} {b : BdT} {x1 : Int32} {x2 : Int32} {x3 : Int32} {ob : BdT} (hM : f_Board_castleRook x1 x2 x3 b = some ob) : am_cv 3 k_Board_castleRook [.ref 114, .int x1, .int x2, .int x3] (zl sn sx, xa c0 T D r b tl, M, q) (.inl none, (zl sn sx, xa c0 T D r ob tl, M, q)) := am_cv.of rfl (se_Board_castleRook_B (e := ob) (show y_Board_castleRook_B sn sx M q c0 tl T D r _ ob from rfl) hM)
def y_Board_make_B (sn : Nat) (sx : Nat → Int32) (M : List am_C) (q : Nat × Nat) (c0 : am_C) (tl : List am_C) (T : TxT) (D : BdT) (r : RdT) (o : am_O) : BdT → Prop
  | ob => o = (.inl none, (zl sn sx, xa c0 T D r ob tl, M, q))
theorem sj_Board_make_B_272 {sn : Nat} {sx : Nat → Int32} {M : List am_C} {q : Nat × Nat} {c0 : am_C} {tl : List am_C} {T : TxT} {D : BdT} {r : RdT} {b : BdT} {x8 : Int32} {s0 : Int32} {o : am_O} {e : BdT} (hx : y_Board_make_B sn sx M q c0 tl T D r o e) (hM : j_Board_make_272 b x8 s0 = some e) : am_ev 3 k_Board_make (272, [.ref 114, am_ju, am_ju, am_ju, am_ju, am_ju, am_ju, am_ju, .int x8, am_ju], [.int s0], (zl sn sx, xa c0 T D r b tl, M, q)) o := by
  unfold j_Board_make_272 at hM
  rcases am_if hM with ⟨c1, hM⟩ | ⟨c1, hM⟩
  · refine am_ev.kt 4 298 280 [.ref 114, am_ju, am_ju, am_ju, am_ju, am_ju, am_ju, am_ju, .int x8, .int s0] [.ref 114] (zl sn sx, xa c0 T D r b tl, M, q) c1 (fun _ _ => rfl) ?_
    cases hM
    cases hx
    exact am_ev.kf 3 (fun _ _ => rfl)
  · refine am_ev.ke 4 298 280 [.ref 114, am_ju, am_ju, am_ju, am_ju, am_ju, am_ju, am_ju, .int x8, .int s0] [.ref 114] (zl sn sx, xa c0 T D r b tl, M, q) c1 (fun _ _ => rfl) ?_
    obtain ⟨rr, hc, hM⟩ := am_bind hM
    obtain ⟨r5, rfl⟩ : ∃ z, z = rr := ⟨_, rfl⟩
    refine am_ev.kg 4 (pc' := 287) (lv' := [.ref 114, am_ju, am_ju, am_ju, am_ju, am_ju, am_ju, am_ju, .int x8, .int s0]) (st' := [.int (bd_side b), .int x8, .ref 114, .ref 114]) (h' := (zl sn sx, xa c0 T D r b tl, M, q)) (fun _ _ => rfl) ?_
    refine am_ev.call rfl rfl rfl ((s_Board_pawnAttacks_B hc).mono (by decide)) ?_
    show am_ev _ k_Board_make (290, [.ref 114, am_ju, am_ju, am_ju, am_ju, am_ju, am_ju, am_ju, .int x8, .int s0], [.int r5, .ref 114], (zl sn sx, xa c0 T D r b tl, M, q)) o
    rcases am_if hM with ⟨c2, hM⟩ | ⟨c2, hM⟩
    · refine am_ev.kt 1 298 293 [.ref 114, am_ju, am_ju, am_ju, am_ju, am_ju, am_ju, am_ju, .int x8, .int s0] [.ref 114] (zl sn sx, xa c0 T D r b tl, M, q) c2 (fun _ _ => rfl) ?_
      cases hM
      cases hx
      exact am_ev.kf 3 (fun _ _ => rfl)
    · refine am_ev.ke 1 298 293 [.ref 114, am_ju, am_ju, am_ju, am_ju, am_ju, am_ju, am_ju, .int x8, .int s0] [.ref 114] (zl sn sx, xa c0 T D r b tl, M, q) c2 (fun _ _ => rfl) ?_
      cases hM
      cases hx
      exact am_ev.kf 4 (fun _ _ => rfl)
theorem sj_Board_make_B_271 {sn : Nat} {sx : Nat → Int32} {M : List am_C} {q : Nat × Nat} {c0 : am_C} {tl : List am_C} {T : TxT} {D : BdT} {r : RdT} {b : BdT} {x8 : Int32} {o : am_O} {e : BdT} (hx : y_Board_make_B sn sx M q c0 tl T D r o e) (hM : j_Board_make_271 b x8 = some e) : am_ev 3 k_Board_make (271, [.ref 114, am_ju, am_ju, am_ju, am_ju, am_ju, am_ju, am_ju, .int x8, am_ju], [], (zl sn sx, xa c0 T D r b tl, M, q)) o := by
  unfold j_Board_make_271 at hM
  refine am_ev.kg 1 (pc' := 272) (lv' := [.ref 114, am_ju, am_ju, am_ju, am_ju, am_ju, am_ju, am_ju, .int x8, am_ju]) (st' := [.int (0 : Int32)]) (h' := (zl sn sx, xa c0 T D r b tl, M, q)) (fun _ _ => rfl) ?_
  exact sj_Board_make_B_272 hx hM
theorem sj_Board_make_B_212 {sn : Nat} {sx : Nat → Int32} {M : List am_C} {q : Nat × Nat} {c0 : am_C} {tl : List am_C} {T : TxT} {D : BdT} {r : RdT} {b : BdT} {x2 : Int32} {x3 : Int32} {x6 : Int32} {o : am_O} {e : BdT} (hx : y_Board_make_B sn sx M q c0 tl T D r o e) (hM : j_Board_make_212 b x2 x3 x6 = some e) : am_ev 3 k_Board_make (212, [.ref 114, am_ju, .int x2, .int x3, am_ju, am_ju, .int x6, am_ju, am_ju, am_ju], [], (zl sn sx, xa c0 T D r b tl, M, q)) o := by
  unfold j_Board_make_212 at hM
  obtain ⟨c3, hM⟩ := am_ifn hM
  refine am_ev.kc 6 222 [.ref 114, am_ju, .int x2, .int x3, am_ju, am_ju, .int x6, am_ju, am_ju, am_ju] [.int (tb_RIGHTS_AT (x2).toNatClampNeg), .int (bd_rights b), .ref 114] (zl sn sx, xa c0 T D r b tl, M, q) c3 (fun _ _ => rfl) ?_
  obtain ⟨c4, hM⟩ := am_ifn hM
  refine am_ev.kc 3 227 [.ref 114, am_ju, .int x2, .int x3, am_ju, am_ju, .int x6, am_ju, am_ju, am_ju] [.int (tb_RIGHTS_AT (x3).toNatClampNeg), .int (tb_RIGHTS_AT (x2).toNatClampNeg), .int (bd_rights b), .ref 114] (zl sn sx, xa c0 T D r b tl, M, q) c4 (fun _ _ => rfl) ?_
  rcases am_if hM with ⟨c5, hM⟩ | ⟨c5, hM⟩
  · refine am_ev.kt 19 271 256 [.ref 114, am_ju, .int x2, .int x3, am_ju, am_ju, .int x6, am_ju, .int ((x2 + x3) >>> ((1 : Int32) &&& 31)), am_ju] [] (zl sn sx, xa c0 T D r ((bd_men b), (bd_held b), (bd_kings b), ((1 : Int32) - (bd_side b)), ((bd_rights b) &&& (((tb_RIGHTS_AT (x2).toNatClampNeg) ||| (tb_RIGHTS_AT (x3).toNatClampNeg)) ^^^ (-1 : Int32))), (bd_passed b), (bd_depth b), (bd_made b), (bd_taken b), (bd_takenAt b), (bd_rightsBefore b), (bd_passedBefore b)) tl, M, q) c5 (fun _ _ => rfl) ?_
    refine am_ev.wk (lv' := [.ref 114, am_ju, am_ju, am_ju, am_ju, am_ju, am_ju, am_ju, .int ((x2 + x3) >>> ((1 : Int32) &&& 31)), am_ju]) (am_lc (Or.inr rfl) (am_lc (Or.inr rfl) (am_lc (Or.inl rfl) (am_lc (Or.inl rfl) (am_lc (Or.inr rfl) (am_lc (Or.inr rfl) (am_lc (Or.inl rfl) (am_lc (Or.inr rfl) (am_lc (Or.inr rfl) (am_lc (Or.inr rfl) am_ln)))))))))) ?_
    exact sj_Board_make_B_271 hx hM
  · refine am_ev.ke 19 271 256 [.ref 114, am_ju, .int x2, .int x3, am_ju, am_ju, .int x6, am_ju, .int ((x2 + x3) >>> ((1 : Int32) &&& 31)), am_ju] [] (zl sn sx, xa c0 T D r ((bd_men b), (bd_held b), (bd_kings b), ((1 : Int32) - (bd_side b)), ((bd_rights b) &&& (((tb_RIGHTS_AT (x2).toNatClampNeg) ||| (tb_RIGHTS_AT (x3).toNatClampNeg)) ^^^ (-1 : Int32))), (bd_passed b), (bd_depth b), (bd_made b), (bd_taken b), (bd_takenAt b), (bd_rightsBefore b), (bd_passedBefore b)) tl, M, q) c5 (fun _ _ => rfl) ?_
    rcases am_if hM with ⟨c6, hM⟩ | ⟨c6, hM⟩
    · refine am_ev.kt 6 271 267 [.ref 114, am_ju, .int x2, .int x3, am_ju, am_ju, .int x6, am_ju, .int ((x2 + x3) >>> ((1 : Int32) &&& 31)), am_ju] [] (zl sn sx, xa c0 T D r ((bd_men b), (bd_held b), (bd_kings b), ((1 : Int32) - (bd_side b)), ((bd_rights b) &&& (((tb_RIGHTS_AT (x2).toNatClampNeg) ||| (tb_RIGHTS_AT (x3).toNatClampNeg)) ^^^ (-1 : Int32))), (bd_passed b), (bd_depth b), (bd_made b), (bd_taken b), (bd_takenAt b), (bd_rightsBefore b), (bd_passedBefore b)) tl, M, q) c6 (fun _ _ => rfl) ?_
      refine am_ev.wk (lv' := [.ref 114, am_ju, am_ju, am_ju, am_ju, am_ju, am_ju, am_ju, .int ((x2 + x3) >>> ((1 : Int32) &&& 31)), am_ju]) (am_lc (Or.inr rfl) (am_lc (Or.inr rfl) (am_lc (Or.inl rfl) (am_lc (Or.inl rfl) (am_lc (Or.inr rfl) (am_lc (Or.inr rfl) (am_lc (Or.inl rfl) (am_lc (Or.inr rfl) (am_lc (Or.inr rfl) (am_lc (Or.inr rfl) am_ln)))))))))) ?_
      exact sj_Board_make_B_271 hx hM
    · refine am_ev.ke 6 271 267 [.ref 114, am_ju, .int x2, .int x3, am_ju, am_ju, .int x6, am_ju, .int ((x2 + x3) >>> ((1 : Int32) &&& 31)), am_ju] [] (zl sn sx, xa c0 T D r ((bd_men b), (bd_held b), (bd_kings b), ((1 : Int32) - (bd_side b)), ((bd_rights b) &&& (((tb_RIGHTS_AT (x2).toNatClampNeg) ||| (tb_RIGHTS_AT (x3).toNatClampNeg)) ^^^ (-1 : Int32))), (bd_passed b), (bd_depth b), (bd_made b), (bd_taken b), (bd_takenAt b), (bd_rightsBefore b), (bd_passedBefore b)) tl, M, q) c6 (fun _ _ => rfl) ?_
      refine am_ev.kg 2 (pc' := 272) (lv' := [.ref 114, am_ju, .int x2, .int x3, am_ju, am_ju, .int x6, am_ju, .int ((x2 + x3) >>> ((1 : Int32) &&& 31)), am_ju]) (st' := [.int (1 : Int32)]) (h' := (zl sn sx, xa c0 T D r ((bd_men b), (bd_held b), (bd_kings b), ((1 : Int32) - (bd_side b)), ((bd_rights b) &&& (((tb_RIGHTS_AT (x2).toNatClampNeg) ||| (tb_RIGHTS_AT (x3).toNatClampNeg)) ^^^ (-1 : Int32))), (bd_passed b), (bd_depth b), (bd_made b), (bd_taken b), (bd_takenAt b), (bd_rightsBefore b), (bd_passedBefore b)) tl, M, q)) (fun _ _ => rfl) ?_
      refine am_ev.wk (lv' := [.ref 114, am_ju, am_ju, am_ju, am_ju, am_ju, am_ju, am_ju, .int ((x2 + x3) >>> ((1 : Int32) &&& 31)), am_ju]) (am_lc (Or.inr rfl) (am_lc (Or.inr rfl) (am_lc (Or.inl rfl) (am_lc (Or.inl rfl) (am_lc (Or.inr rfl) (am_lc (Or.inr rfl) (am_lc (Or.inl rfl) (am_lc (Or.inr rfl) (am_lc (Or.inr rfl) (am_lc (Or.inr rfl) am_ln)))))))))) ?_
      exact sj_Board_make_B_272 hx hM
theorem sj_Board_make_B_182 {sn : Nat} {sx : Nat → Int32} {M : List am_C} {q : Nat × Nat} {c0 : am_C} {tl : List am_C} {T : TxT} {D : BdT} {r : RdT} {b : BdT} {x2 : Int32} {x3 : Int32} {x5 : Int32} {x6 : Int32} {s1 : Int32} {s2 : Int32} {o : am_O} {e : BdT} (hx : y_Board_make_B sn sx M q c0 tl T D r o e) (hM : j_Board_make_182 b x2 x3 x5 x6 s1 s2 = some e) : am_ev 3 k_Board_make (182, [.ref 114, am_ju, .int x2, .int x3, am_ju, .int x5, .int x6, am_ju, am_ju, am_ju], [.int s2, .int s1, .ref 114], (zl sn sx, xa c0 T D r b tl, M, q)) o := by
  unfold j_Board_make_182 at hM
  obtain ⟨rr, hc, hM⟩ := am_bind hM
  obtain ⟨bg3, rfl⟩ : ∃ z, z = rr := ⟨_, rfl⟩
  refine am_ev.call rfl rfl rfl ((s_Board_put_B hc).mono (by decide)) ?_
  show am_ev _ k_Board_make (185, [.ref 114, am_ju, .int x2, .int x3, am_ju, .int x5, .int x6, am_ju, am_ju, am_ju], [], (zl sn sx, xa c0 T D r bg3 tl, M, q)) o
  rcases am_if hM with ⟨c7, hM⟩ | ⟨c7, hM⟩
  · refine am_ev.kt 5 212 195 [.ref 114, am_ju, .int x2, .int x3, am_ju, .int x5, .int x6, am_ju, am_ju, am_ju] [] (zl sn sx, xa c0 T D r bg3 tl, M, q) c7 (fun _ _ => rfl) ?_
    refine am_ev.wk (lv' := [.ref 114, am_ju, .int x2, .int x3, am_ju, am_ju, .int x6, am_ju, am_ju, am_ju]) (am_lc (Or.inr rfl) (am_lc (Or.inr rfl) (am_lc (Or.inr rfl) (am_lc (Or.inr rfl) (am_lc (Or.inr rfl) (am_lc (Or.inl rfl) (am_lc (Or.inr rfl) (am_lc (Or.inr rfl) (am_lc (Or.inr rfl) (am_lc (Or.inr rfl) am_ln)))))))))) ?_
    exact sj_Board_make_B_212 hx hM
  · refine am_ev.ke 5 212 195 [.ref 114, am_ju, .int x2, .int x3, am_ju, .int x5, .int x6, am_ju, am_ju, am_ju] [] (zl sn sx, xa c0 T D r bg3 tl, M, q) c7 (fun _ _ => rfl) ?_
    obtain ⟨c8, hM⟩ := am_ifn hM
    refine am_ev.kc 6 205 [.ref 114, am_ju, .int x2, .int x3, am_ju, .int x5, .int x6, am_ju, am_ju, am_ju] [] (zl sn sx, xa c0 T D r ((bd_men bg3), (bd_held bg3), (upd (bd_kings bg3) ((bd_side bg3)).toNatClampNeg x3), (bd_side bg3), (bd_rights bg3), (bd_passed bg3), (bd_depth bg3), (bd_made bg3), (bd_taken bg3), (bd_takenAt bg3), (bd_rightsBefore bg3), (bd_passedBefore bg3)) tl, M, q) c8 (fun _ _ => rfl) ?_
    obtain ⟨rr, hc, hM⟩ := am_bind hM
    obtain ⟨bg4, rfl⟩ : ∃ z, z = rr := ⟨_, rfl⟩
    refine am_ev.kg 4 (pc' := 209) (lv' := [.ref 114, am_ju, .int x2, .int x3, am_ju, .int x5, .int x6, am_ju, am_ju, am_ju]) (st' := [.int (1 : Int32), .int x3, .int x2, .ref 114]) (h' := (zl sn sx, xa c0 T D r ((bd_men bg3), (bd_held bg3), (upd (bd_kings bg3) ((bd_side bg3)).toNatClampNeg x3), (bd_side bg3), (bd_rights bg3), (bd_passed bg3), (bd_depth bg3), (bd_made bg3), (bd_taken bg3), (bd_takenAt bg3), (bd_rightsBefore bg3), (bd_passedBefore bg3)) tl, M, q)) (fun _ _ => rfl) ?_
    refine am_ev.call rfl rfl rfl ((s_Board_castleRook_B hc).mono (by decide)) ?_
    show am_ev _ k_Board_make (212, [.ref 114, am_ju, .int x2, .int x3, am_ju, .int x5, .int x6, am_ju, am_ju, am_ju], [], (zl sn sx, xa c0 T D r bg4 tl, M, q)) o
    refine am_ev.wk (lv' := [.ref 114, am_ju, .int x2, .int x3, am_ju, am_ju, .int x6, am_ju, am_ju, am_ju]) (am_lc (Or.inr rfl) (am_lc (Or.inr rfl) (am_lc (Or.inr rfl) (am_lc (Or.inr rfl) (am_lc (Or.inr rfl) (am_lc (Or.inl rfl) (am_lc (Or.inr rfl) (am_lc (Or.inr rfl) (am_lc (Or.inr rfl) (am_lc (Or.inr rfl) am_ln)))))))))) ?_
    exact sj_Board_make_B_212 hx hM
theorem sj_Board_make_B_74 {sn : Nat} {sx : Nat → Int32} {M : List am_C} {q : Nat × Nat} {c0 : am_C} {tl : List am_C} {T : TxT} {D : BdT} {r : RdT} {b : BdT} {x1 : Int32} {x2 : Int32} {x3 : Int32} {x4 : Int32} {x5 : Int32} {x6 : Int32} {s0 : Int32} {o : am_O} {e : BdT} (hx : y_Board_make_B sn sx M q c0 tl T D r o e) (hM : j_Board_make_74 b x1 x2 x3 x4 x5 x6 s0 = some e) : am_ev 3 k_Board_make (74, [.ref 114, .int x1, .int x2, .int x3, .int x4, .int x5, .int x6, am_ju, am_ju, am_ju], [.int s0], (zl sn sx, xa c0 T D r b tl, M, q)) o := by
  unfold j_Board_make_74 at hM
  obtain ⟨c9, hM⟩ := am_ifn hM
  refine am_ev.kc 7 86 [.ref 114, .int x1, .int x2, .int x3, .int x4, .int x5, .int x6, .int s0, am_ju, am_ju] [] (zl sn sx, xa c0 T D r ((bd_men b), (bd_held b), (bd_kings b), (bd_side b), (bd_rights b), (bd_passed b), (bd_depth b), (upd (bd_made b) ((bd_depth b)).toNatClampNeg x1), (bd_taken b), (bd_takenAt b), (bd_rightsBefore b), (bd_passedBefore b)) tl, M, q) c9 (fun _ _ => rfl) ?_
  obtain ⟨c10, hM⟩ := am_ifn hM
  refine am_ev.kc 8 101 [.ref 114, .int x1, .int x2, .int x3, .int x4, .int x5, .int x6, .int s0, am_ju, am_ju] [.int ((bd_men b) (s0).toNatClampNeg), .int (bd_depth b), .ref 119] (zl sn sx, xa c0 T D r ((bd_men b), (bd_held b), (bd_kings b), (bd_side b), (bd_rights b), (bd_passed b), (bd_depth b), (upd (bd_made b) ((bd_depth b)).toNatClampNeg x1), (bd_taken b), (bd_takenAt b), (bd_rightsBefore b), (bd_passedBefore b)) tl, M, q) c10 (fun _ _ => rfl) ?_
  obtain ⟨c11, hM⟩ := am_ifn hM
  refine am_ev.kc 1 102 [.ref 114, .int x1, .int x2, .int x3, .int x4, .int x5, .int x6, .int s0, am_ju, am_ju] [] (zl sn sx, xa c0 T D r ((bd_men b), (bd_held b), (bd_kings b), (bd_side b), (bd_rights b), (bd_passed b), (bd_depth b), (upd (bd_made b) ((bd_depth b)).toNatClampNeg x1), (upd (bd_taken b) ((bd_depth b)).toNatClampNeg ((bd_men b) (s0).toNatClampNeg)), (bd_takenAt b), (bd_rightsBefore b), (bd_passedBefore b)) tl, M, q) c11 (fun _ _ => rfl) ?_
  obtain ⟨c12, hM⟩ := am_ifn hM
  refine am_ev.kc 6 113 [.ref 114, .int x1, .int x2, .int x3, .int x4, .int x5, .int x6, .int s0, am_ju, am_ju] [] (zl sn sx, xa c0 T D r ((bd_men b), (bd_held b), (bd_kings b), (bd_side b), (bd_rights b), (bd_passed b), (bd_depth b), (upd (bd_made b) ((bd_depth b)).toNatClampNeg x1), (upd (bd_taken b) ((bd_depth b)).toNatClampNeg ((bd_men b) (s0).toNatClampNeg)), (upd (bd_takenAt b) ((bd_depth b)).toNatClampNeg s0), (bd_rightsBefore b), (bd_passedBefore b)) tl, M, q) c12 (fun _ _ => rfl) ?_
  obtain ⟨c13, hM⟩ := am_ifn hM
  refine am_ev.kc 7 126 [.ref 114, .int x1, .int x2, .int x3, .int x4, .int x5, .int x6, .int s0, am_ju, am_ju] [] (zl sn sx, xa c0 T D r ((bd_men b), (bd_held b), (bd_kings b), (bd_side b), (bd_rights b), (bd_passed b), (bd_depth b), (upd (bd_made b) ((bd_depth b)).toNatClampNeg x1), (upd (bd_taken b) ((bd_depth b)).toNatClampNeg ((bd_men b) (s0).toNatClampNeg)), (upd (bd_takenAt b) ((bd_depth b)).toNatClampNeg s0), (upd (bd_rightsBefore b) ((bd_depth b)).toNatClampNeg (bd_rights b)), (bd_passedBefore b)) tl, M, q) c13 (fun _ _ => rfl) ?_
  obtain ⟨c14, hM⟩ := am_ifn hM
  refine am_ev.kc 7 139 [.ref 114, .int x1, .int x2, .int x3, .int x4, .int x5, .int x6, .int s0, am_ju, am_ju] [] (zl sn sx, xa c0 T D r ((bd_men b), (bd_held b), (bd_kings b), (bd_side b), (bd_rights b), (bd_passed b), (bd_depth b), (upd (bd_made b) ((bd_depth b)).toNatClampNeg x1), (upd (bd_taken b) ((bd_depth b)).toNatClampNeg ((bd_men b) (s0).toNatClampNeg)), (upd (bd_takenAt b) ((bd_depth b)).toNatClampNeg s0), (upd (bd_rightsBefore b) ((bd_depth b)).toNatClampNeg (bd_rights b)), (upd (bd_passedBefore b) ((bd_depth b)).toNatClampNeg (bd_passed b))) tl, M, q) c14 (fun _ _ => rfl) ?_
  obtain ⟨rr, hc, hM⟩ := am_bind hM
  obtain ⟨bg1, rfl⟩ : ∃ z, z = rr := ⟨_, rfl⟩
  refine am_ev.kg 8 (pc' := 152) (lv' := [.ref 114, .int x1, .int x2, .int x3, .int x4, .int x5, .int x6, .int s0, am_ju, am_ju]) (st' := [.int s0, .ref 114]) (h' := (zl sn sx, xa c0 T D r ((bd_men b), (bd_held b), (bd_kings b), (bd_side b), (bd_rights b), (bd_passed b), ((bd_depth b) + (1 : Int32)), (upd (bd_made b) ((bd_depth b)).toNatClampNeg x1), (upd (bd_taken b) ((bd_depth b)).toNatClampNeg ((bd_men b) (s0).toNatClampNeg)), (upd (bd_takenAt b) ((bd_depth b)).toNatClampNeg s0), (upd (bd_rightsBefore b) ((bd_depth b)).toNatClampNeg (bd_rights b)), (upd (bd_passedBefore b) ((bd_depth b)).toNatClampNeg (bd_passed b))) tl, M, q)) (fun _ _ => rfl) ?_
  refine am_ev.call rfl rfl rfl ((s_Board_lift_B hc).mono (by decide)) ?_
  show am_ev _ k_Board_make (155, [.ref 114, .int x1, .int x2, .int x3, .int x4, .int x5, .int x6, .int s0, am_ju, am_ju], [], (zl sn sx, xa c0 T D r bg1 tl, M, q)) o
  obtain ⟨rr, hc, hM⟩ := am_bind hM
  obtain ⟨bg2, rfl⟩ : ∃ z, z = rr := ⟨_, rfl⟩
  refine am_ev.kg 2 (pc' := 157) (lv' := [.ref 114, .int x1, .int x2, .int x3, .int x4, .int x5, .int x6, .int s0, am_ju, am_ju]) (st' := [.int x2, .ref 114]) (h' := (zl sn sx, xa c0 T D r bg1 tl, M, q)) (fun _ _ => rfl) ?_
  refine am_ev.call rfl rfl rfl ((s_Board_lift_B hc).mono (by decide)) ?_
  show am_ev _ k_Board_make (160, [.ref 114, .int x1, .int x2, .int x3, .int x4, .int x5, .int x6, .int s0, am_ju, am_ju], [], (zl sn sx, xa c0 T D r bg2 tl, M, q)) o
  rcases am_if hM with ⟨c15, hM⟩ | ⟨c15, hM⟩
  · refine am_ev.kt 4 172 167 [.ref 114, .int x1, .int x2, .int x3, .int x4, .int x5, .int x6, .int s0, am_ju, am_ju] [.int x3, .ref 114] (zl sn sx, xa c0 T D r bg2 tl, M, q) c15 (fun _ _ => rfl) ?_
    refine am_ev.kg 6 (pc' := 182) (lv' := [.ref 114, .int x1, .int x2, .int x3, .int x4, .int x5, .int x6, .int s0, am_ju, am_ju]) (st' := [.int (x4 + ((8 : Int32) * (bd_side bg2))), .int x3, .ref 114]) (h' := (zl sn sx, xa c0 T D r bg2 tl, M, q)) (fun _ _ => rfl) ?_
    refine am_ev.wk (lv' := [.ref 114, am_ju, .int x2, .int x3, am_ju, .int x5, .int x6, am_ju, am_ju, am_ju]) (am_lc (Or.inr rfl) (am_lc (Or.inl rfl) (am_lc (Or.inr rfl) (am_lc (Or.inr rfl) (am_lc (Or.inl rfl) (am_lc (Or.inr rfl) (am_lc (Or.inr rfl) (am_lc (Or.inl rfl) (am_lc (Or.inr rfl) (am_lc (Or.inr rfl) am_ln)))))))))) ?_
    exact sj_Board_make_B_182 hx hM
  · refine am_ev.ke 4 172 167 [.ref 114, .int x1, .int x2, .int x3, .int x4, .int x5, .int x6, .int s0, am_ju, am_ju] [.int x3, .ref 114] (zl sn sx, xa c0 T D r bg2 tl, M, q) c15 (fun _ _ => rfl) ?_
    refine am_ev.kg 2 (pc' := 182) (lv' := [.ref 114, .int x1, .int x2, .int x3, .int x4, .int x5, .int x6, .int s0, am_ju, am_ju]) (st' := [.int x5, .int x3, .ref 114]) (h' := (zl sn sx, xa c0 T D r bg2 tl, M, q)) (fun _ _ => rfl) ?_
    refine am_ev.wk (lv' := [.ref 114, am_ju, .int x2, .int x3, am_ju, .int x5, .int x6, am_ju, am_ju, am_ju]) (am_lc (Or.inr rfl) (am_lc (Or.inl rfl) (am_lc (Or.inr rfl) (am_lc (Or.inr rfl) (am_lc (Or.inl rfl) (am_lc (Or.inr rfl) (am_lc (Or.inr rfl) (am_lc (Or.inl rfl) (am_lc (Or.inr rfl) (am_lc (Or.inr rfl) am_ln)))))))))) ?_
    exact sj_Board_make_B_182 hx hM
theorem sj_Board_make_B_73 {sn : Nat} {sx : Nat → Int32} {M : List am_C} {q : Nat × Nat} {c0 : am_C} {tl : List am_C} {T : TxT} {D : BdT} {r : RdT} {b : BdT} {x1 : Int32} {x2 : Int32} {x3 : Int32} {x4 : Int32} {x5 : Int32} {x6 : Int32} {o : am_O} {e : BdT} (hx : y_Board_make_B sn sx M q c0 tl T D r o e) (hM : j_Board_make_73 b x1 x2 x3 x4 x5 x6 = some e) : am_ev 3 k_Board_make (73, [.ref 114, .int x1, .int x2, .int x3, .int x4, .int x5, .int x6, am_ju, am_ju, am_ju], [], (zl sn sx, xa c0 T D r b tl, M, q)) o := by
  unfold j_Board_make_73 at hM
  refine am_ev.kg 1 (pc' := 74) (lv' := [.ref 114, .int x1, .int x2, .int x3, .int x4, .int x5, .int x6, am_ju, am_ju, am_ju]) (st' := [.int x3]) (h' := (zl sn sx, xa c0 T D r b tl, M, q)) (fun _ _ => rfl) ?_
  exact sj_Board_make_B_74 hx hM
theorem sj_Board_make_B_51 {sn : Nat} {sx : Nat → Int32} {M : List am_C} {q : Nat × Nat} {c0 : am_C} {tl : List am_C} {T : TxT} {D : BdT} {r : RdT} {b : BdT} {x1 : Int32} {x2 : Int32} {x3 : Int32} {x4 : Int32} {x5 : Int32} {s0 : Int32} {o : am_O} {e : BdT} (hx : y_Board_make_B sn sx M q c0 tl T D r o e) (hM : j_Board_make_51 b x1 x2 x3 x4 x5 s0 = some e) : am_ev 3 k_Board_make (51, [.ref 114, .int x1, .int x2, .int x3, .int x4, .int x5, am_ju, am_ju, am_ju, am_ju], [.int s0], (zl sn sx, xa c0 T D r b tl, M, q)) o := by
  unfold j_Board_make_51 at hM
  rcases am_if hM with ⟨c16, hM⟩ | ⟨c16, hM⟩
  · refine am_ev.kt 3 73 58 [.ref 114, .int x1, .int x2, .int x3, .int x4, .int x5, .int s0, am_ju, am_ju, am_ju] [] (zl sn sx, xa c0 T D r b tl, M, q) c16 (fun _ _ => rfl) ?_
    exact sj_Board_make_B_73 hx hM
  · refine am_ev.ke 3 73 58 [.ref 114, .int x1, .int x2, .int x3, .int x4, .int x5, .int s0, am_ju, am_ju, am_ju] [] (zl sn sx, xa c0 T D r b tl, M, q) c16 (fun _ _ => rfl) ?_
    rcases am_if hM with ⟨c17, hM⟩ | ⟨c17, hM⟩
    · refine am_ev.kt 4 73 66 [.ref 114, .int x1, .int x2, .int x3, .int x4, .int x5, .int s0, am_ju, am_ju, am_ju] [] (zl sn sx, xa c0 T D r b tl, M, q) c17 (fun _ _ => rfl) ?_
      exact sj_Board_make_B_73 hx hM
    · refine am_ev.ke 4 73 66 [.ref 114, .int x1, .int x2, .int x3, .int x4, .int x5, .int s0, am_ju, am_ju, am_ju] [] (zl sn sx, xa c0 T D r b tl, M, q) c17 (fun _ _ => rfl) ?_
      refine am_ev.kg 4 (pc' := 74) (lv' := [.ref 114, .int x1, .int x2, .int x3, .int x4, .int x5, .int s0, am_ju, am_ju, am_ju]) (st' := [.int (x3 ^^^ (8 : Int32))]) (h' := (zl sn sx, xa c0 T D r b tl, M, q)) (fun _ _ => rfl) ?_
      exact sj_Board_make_B_74 hx hM
theorem se_Board_make_B {sn : Nat} {sx : Nat → Int32} {M : List am_C} {q : Nat × Nat} {c0 : am_C} {tl : List am_C} {T : TxT} {D : BdT} {r : RdT} {b : BdT} {x1 : Int32} {o : am_O} {e : BdT} (hx : y_Board_make_B sn sx M q c0 tl T D r o e) (hM : f_Board_make x1 b = some e) : am_ev 3 k_Board_make (0, [.ref 114, .int x1, am_ju, am_ju, am_ju, am_ju, am_ju, am_ju, am_ju, am_ju], [], (zl sn sx, xa c0 T D r b tl, M, q)) o := by
  unfold f_Board_make at hM
  rcases am_if hM with ⟨c18, hM⟩ | ⟨c18, hM⟩
  · refine am_ev.kt 4 10 9 [.ref 114, .int x1, am_ju, am_ju, am_ju, am_ju, am_ju, am_ju, am_ju, am_ju] [] (zl sn sx, xa c0 T D r b tl, M, q) c18 (fun _ _ => rfl) ?_
    obtain ⟨c19, hM⟩ := am_ifn hM
    refine am_ev.kc 18 35 [.ref 114, .int x1, .int (x1 &&& (63 : Int32)), .int ((x1 >>> ((6 : Int32) &&& 31)) &&& (63 : Int32)), .int (x1 >>> ((12 : Int32) &&& 31)), am_ju, am_ju, am_ju, am_ju, am_ju] [.int ((bd_men b) ((x1 &&& (63 : Int32))).toNatClampNeg)] (zl sn sx, xa c0 T D r b tl, M, q) c19 (fun _ _ => rfl) ?_
    rcases am_if hM with ⟨c20, hM⟩ | ⟨c20, hM⟩
    · refine am_ev.kt 6 50 46 [.ref 114, .int x1, .int (x1 &&& (63 : Int32)), .int ((x1 >>> ((6 : Int32) &&& 31)) &&& (63 : Int32)), .int (x1 >>> ((12 : Int32) &&& 31)), .int ((bd_men b) ((x1 &&& (63 : Int32))).toNatClampNeg), am_ju, am_ju, am_ju, am_ju] [] (zl sn sx, xa c0 T D r b tl, M, q) c20 (fun _ _ => rfl) ?_
      refine am_ev.kg 1 (pc' := 51) (lv' := [.ref 114, .int x1, .int (x1 &&& (63 : Int32)), .int ((x1 >>> ((6 : Int32) &&& 31)) &&& (63 : Int32)), .int (x1 >>> ((12 : Int32) &&& 31)), .int ((bd_men b) ((x1 &&& (63 : Int32))).toNatClampNeg), am_ju, am_ju, am_ju, am_ju]) (st' := [.int (0 : Int32)]) (h' := (zl sn sx, xa c0 T D r b tl, M, q)) (fun _ _ => rfl) ?_
      exact sj_Board_make_B_51 hx hM
    · refine am_ev.ke 6 50 46 [.ref 114, .int x1, .int (x1 &&& (63 : Int32)), .int ((x1 >>> ((6 : Int32) &&& 31)) &&& (63 : Int32)), .int (x1 >>> ((12 : Int32) &&& 31)), .int ((bd_men b) ((x1 &&& (63 : Int32))).toNatClampNeg), am_ju, am_ju, am_ju, am_ju] [] (zl sn sx, xa c0 T D r b tl, M, q) c20 (fun _ _ => rfl) ?_
      refine am_ev.kg 2 (pc' := 51) (lv' := [.ref 114, .int x1, .int (x1 &&& (63 : Int32)), .int ((x1 >>> ((6 : Int32) &&& 31)) &&& (63 : Int32)), .int (x1 >>> ((12 : Int32) &&& 31)), .int ((bd_men b) ((x1 &&& (63 : Int32))).toNatClampNeg), am_ju, am_ju, am_ju, am_ju]) (st' := [.int (1 : Int32)]) (h' := (zl sn sx, xa c0 T D r b tl, M, q)) (fun _ _ => rfl) ?_
      exact sj_Board_make_B_51 hx hM
  · refine am_ev.ke 4 10 9 [.ref 114, .int x1, am_ju, am_ju, am_ju, am_ju, am_ju, am_ju, am_ju, am_ju] [] (zl sn sx, xa c0 T D r b tl, M, q) c18 (fun _ _ => rfl) ?_
    cases hM
    cases hx
    exact am_ev.kf 1 (fun _ _ => rfl)
theorem s_Board_make_B {sn : Nat} {sx : Nat → Int32} {M : List am_C} {q : Nat × Nat} {c0 : am_C} {tl : List am_C} {T : TxT} {D : BdT} {r : RdT} {b : BdT} {x1 : Int32} {ob : BdT} (hM : f_Board_make x1 b = some ob) : am_cv 4 k_Board_make [.ref 114, .int x1] (zl sn sx, xa c0 T D r b tl, M, q) (.inl none, (zl sn sx, xa c0 T D r ob tl, M, q)) := am_cv.of rfl (se_Board_make_B (e := ob) (show y_Board_make_B sn sx M q c0 tl T D r _ ob from rfl) hM)
