def y_Mover_pawnTargets (sn : Nat) (sx : Nat → Int32) (M : List am_C) (q : Nat × Nat) (T : TxT) (D : BdT) (r : RdT) (B : BdT) (V : MvT) (L : RwT) (F : RwT) (R : Nat → RwT) (S : SoT) (P : HeT) (oo : am_O) : Int64 → Prop
  | ov => oo = (.inl (some (.long ov)), (zl sn sx, xa xm T D r B (xb V L F R S P), M, q))
theorem sj_Mover_pawnTargets_142 {fu : Nat} {sn : Nat} {sx : Nat → Int32} {M : List am_C} {q : Nat × Nat} {T : TxT} {D : BdT} {r : RdT} {B : BdT} {V : MvT} {L : RwT} {F : RwT} {R : Nat → RwT} {S : SoT} {P : HeT} {l6 : Int64} {x9 : Int32} {s0 : Int32} {oo : am_O} {e : Int64} (hx : y_Mover_pawnTargets sn sx M q T D r B V L F R S P oo e) (hM : j_Mover_pawnTargets_142 fu B l6 x9 s0 = some e) : am_ev 2 k_Mover_pawnTargets (142, [am_ju, am_ju, am_ju, am_ju, am_ju, am_ju, .long l6, am_ju, am_ju, .int x9, am_ju], [.int s0], (zl sn sx, xa xm T D r B (xb V L F R S P), M, q)) oo := by
  unfold j_Mover_pawnTargets_142 at hM
  rcases am_if hM with ⟨c1, hM⟩ | ⟨c1, hM⟩
  · refine am_ev.kt 3 159 149 [am_ju, am_ju, am_ju, am_ju, am_ju, am_ju, .long l6, am_ju, am_ju, .int x9, .int s0] [] (zl sn sx, xa xm T D r B (xb V L F R S P), M, q) c1 (fun _ _ => rfl) ?_
    cases hM
    cases hx
    exact am_ev.kf 2 (fun _ _ => rfl)
  · refine am_ev.ke 3 159 149 [am_ju, am_ju, am_ju, am_ju, am_ju, am_ju, .long l6, am_ju, am_ju, .int x9, .int s0] [] (zl sn sx, xa xm T D r B (xb V L F R S P), M, q) c1 (fun _ _ => rfl) ?_
    cases hM
    cases hx
    exact am_ev.kf 7 (fun _ _ => rfl)
theorem sj_Mover_pawnTargets_141 {fu : Nat} {sn : Nat} {sx : Nat → Int32} {M : List am_C} {q : Nat × Nat} {T : TxT} {D : BdT} {r : RdT} {B : BdT} {V : MvT} {L : RwT} {F : RwT} {R : Nat → RwT} {S : SoT} {P : HeT} {l6 : Int64} {x9 : Int32} {oo : am_O} {e : Int64} (hx : y_Mover_pawnTargets sn sx M q T D r B V L F R S P oo e) (hM : j_Mover_pawnTargets_141 fu B l6 x9 = some e) : am_ev 2 k_Mover_pawnTargets (141, [am_ju, am_ju, am_ju, am_ju, am_ju, am_ju, .long l6, am_ju, am_ju, .int x9, am_ju], [], (zl sn sx, xa xm T D r B (xb V L F R S P), M, q)) oo := by
  unfold j_Mover_pawnTargets_141 at hM
  refine am_ev.kg 1 (pc' := 142) (lv' := [am_ju, am_ju, am_ju, am_ju, am_ju, am_ju, .long l6, am_ju, am_ju, .int x9, am_ju]) (st' := [.int (0 : Int32)]) (h' := (zl sn sx, xa xm T D r B (xb V L F R S P), M, q)) (fun _ _ => rfl) ?_
  exact sj_Mover_pawnTargets_142 hx hM
theorem sj_Mover_pawnTargets_119 {fu : Nat} {sn : Nat} {sx : Nat → Int32} {M : List am_C} {q : Nat × Nat} {T : TxT} {D : BdT} {r : RdT} {B : BdT} {V : MvT} {L : RwT} {F : RwT} {R : Nat → RwT} {S : SoT} {P : HeT} {l6 : Int64} {x9 : Int32} {s0 : Int32} {s1 : Int32} {oo : am_O} {e : Int64} (hx : y_Mover_pawnTargets sn sx M q T D r B V L F R S P oo e) (hM : j_Mover_pawnTargets_119 fu B l6 x9 s0 s1 = some e) : am_ev 2 k_Mover_pawnTargets (119, [.ref 123, am_ju, am_ju, am_ju, am_ju, am_ju, .long l6, am_ju, am_ju, .int x9, am_ju], [.int s1, .int s0], (zl sn sx, xa xm T D r B (xb V L F R S P), M, q)) oo := by
  unfold j_Mover_pawnTargets_119 at hM
  rcases am_if hM with ⟨c2, hM⟩ | ⟨c2, hM⟩
  · refine am_ev.kt 1 141 122 [.ref 123, am_ju, am_ju, am_ju, am_ju, am_ju, .long l6, am_ju, am_ju, .int x9, am_ju] [] (zl sn sx, xa xm T D r B (xb V L F R S P), M, q) c2 (fun _ _ => rfl) ?_
    refine am_ev.wk (lv' := [am_ju, am_ju, am_ju, am_ju, am_ju, am_ju, .long l6, am_ju, am_ju, .int x9, am_ju]) (am_lc (Or.inl rfl) (am_lc (Or.inr rfl) (am_lc (Or.inr rfl) (am_lc (Or.inr rfl) (am_lc (Or.inr rfl) (am_lc (Or.inr rfl) (am_lc (Or.inr rfl) (am_lc (Or.inr rfl) (am_lc (Or.inr rfl) (am_lc (Or.inr rfl) (am_lc (Or.inr rfl) am_ln))))))))))) ?_
    exact sj_Mover_pawnTargets_141 hx hM
  · refine am_ev.ke 1 141 122 [.ref 123, am_ju, am_ju, am_ju, am_ju, am_ju, .long l6, am_ju, am_ju, .int x9, am_ju] [] (zl sn sx, xa xm T D r B (xb V L F R S P), M, q) c2 (fun _ _ => rfl) ?_
    rcases am_if hM with ⟨c3, hM⟩ | ⟨c3, hM⟩
    · refine am_ev.kt 2 141 127 [.ref 123, am_ju, am_ju, am_ju, am_ju, am_ju, .long l6, am_ju, am_ju, .int x9, am_ju] [] (zl sn sx, xa xm T D r B (xb V L F R S P), M, q) c3 (fun _ _ => rfl) ?_
      refine am_ev.wk (lv' := [am_ju, am_ju, am_ju, am_ju, am_ju, am_ju, .long l6, am_ju, am_ju, .int x9, am_ju]) (am_lc (Or.inl rfl) (am_lc (Or.inr rfl) (am_lc (Or.inr rfl) (am_lc (Or.inr rfl) (am_lc (Or.inr rfl) (am_lc (Or.inr rfl) (am_lc (Or.inr rfl) (am_lc (Or.inr rfl) (am_lc (Or.inr rfl) (am_lc (Or.inr rfl) (am_lc (Or.inr rfl) am_ln))))))))))) ?_
      exact sj_Mover_pawnTargets_141 hx hM
    · refine am_ev.ke 2 141 127 [.ref 123, am_ju, am_ju, am_ju, am_ju, am_ju, .long l6, am_ju, am_ju, .int x9, am_ju] [] (zl sn sx, xa xm T D r B (xb V L F R S P), M, q) c3 (fun _ _ => rfl) ?_
      obtain ⟨c4, hM⟩ := am_ifn hM
      refine am_ev.kc 4 134 [.ref 123, am_ju, am_ju, am_ju, am_ju, am_ju, .long l6, am_ju, am_ju, .int x9, am_ju] [.int ((bd_men B) (x9).toNatClampNeg)] (zl sn sx, xa xm T D r B (xb V L F R S P), M, q) c4 (fun _ _ => rfl) ?_
      rcases am_if hM with ⟨c5, hM⟩ | ⟨c5, hM⟩
      · refine am_ev.kt 1 141 137 [.ref 123, am_ju, am_ju, am_ju, am_ju, am_ju, .long l6, am_ju, am_ju, .int x9, am_ju] [] (zl sn sx, xa xm T D r B (xb V L F R S P), M, q) c5 (fun _ _ => rfl) ?_
        refine am_ev.wk (lv' := [am_ju, am_ju, am_ju, am_ju, am_ju, am_ju, .long l6, am_ju, am_ju, .int x9, am_ju]) (am_lc (Or.inl rfl) (am_lc (Or.inr rfl) (am_lc (Or.inr rfl) (am_lc (Or.inr rfl) (am_lc (Or.inr rfl) (am_lc (Or.inr rfl) (am_lc (Or.inr rfl) (am_lc (Or.inr rfl) (am_lc (Or.inr rfl) (am_lc (Or.inr rfl) (am_lc (Or.inr rfl) am_ln))))))))))) ?_
        exact sj_Mover_pawnTargets_141 hx hM
      · refine am_ev.ke 1 141 137 [.ref 123, am_ju, am_ju, am_ju, am_ju, am_ju, .long l6, am_ju, am_ju, .int x9, am_ju] [] (zl sn sx, xa xm T D r B (xb V L F R S P), M, q) c5 (fun _ _ => rfl) ?_
        refine am_ev.kg 2 (pc' := 142) (lv' := [.ref 123, am_ju, am_ju, am_ju, am_ju, am_ju, .long l6, am_ju, am_ju, .int x9, am_ju]) (st' := [.int (1 : Int32)]) (h' := (zl sn sx, xa xm T D r B (xb V L F R S P), M, q)) (fun _ _ => rfl) ?_
        refine am_ev.wk (lv' := [am_ju, am_ju, am_ju, am_ju, am_ju, am_ju, .long l6, am_ju, am_ju, .int x9, am_ju]) (am_lc (Or.inl rfl) (am_lc (Or.inr rfl) (am_lc (Or.inr rfl) (am_lc (Or.inr rfl) (am_lc (Or.inr rfl) (am_lc (Or.inr rfl) (am_lc (Or.inr rfl) (am_lc (Or.inr rfl) (am_lc (Or.inr rfl) (am_lc (Or.inr rfl) (am_lc (Or.inr rfl) am_ln))))))))))) ?_
        exact sj_Mover_pawnTargets_142 hx hM
theorem sj_Mover_pawnTargets_35 {fu : Nat} {sn : Nat} {sx : Nat → Int32} {M : List am_C} {q : Nat × Nat} {T : TxT} {D : BdT} {r : RdT} {B : BdT} {V : MvT} {L : RwT} {F : RwT} {R : Nat → RwT} {S : SoT} {P : HeT} {x1 : Int32} {x2 : Int32} {l3 : Int64} {s0 : Int32} {oo : am_O} {e : Int64} (hx : y_Mover_pawnTargets sn sx M q T D r B V L F R S P oo e) (hM : j_Mover_pawnTargets_35 fu B x1 x2 l3 s0 = some e) : am_ev 2 k_Mover_pawnTargets (35, [.ref 123, .int x1, .int x2, .long l3, am_ju, am_ju, am_ju, am_ju, am_ju, am_ju, am_ju], [.int s0], (zl sn sx, xa xm T D r B (xb V L F R S P), M, q)) oo := by
  unfold j_Mover_pawnTargets_35 at hM
  obtain ⟨rr, hc, hM⟩ := am_bind hM
  obtain ⟨r2, rfl⟩ : ∃ z, z = rr := ⟨_, rfl⟩
  refine am_ev.kg 10 (pc' := 50) (lv' := [.ref 123, .int x1, .int x2, .long l3, am_ju, .int s0, am_ju, am_ju, am_ju, am_ju, am_ju]) (st' := [.int (1 : Int32), .int (s0 + (2 : Int32)), .int s0, .int x1, .ref 114, .long l3]) (h' := (zl sn sx, xa xm T D r B (xb V L F R S P), M, q)) (fun _ _ => rfl) ?_
  refine am_ev.call rfl rfl rfl ((s_Board_seen_B hc).mono (by decide)) ?_
  show am_ev _ k_Mover_pawnTargets (53, [.ref 123, .int x1, .int x2, .long l3, am_ju, .int s0, am_ju, am_ju, am_ju, am_ju, am_ju], [.long r2, .long l3], (zl sn sx, xa xm T D r B (xb V L F R S P), M, q)) oo
  obtain ⟨rr, hc, hM⟩ := am_bind hM
  obtain ⟨r3, rfl⟩ : ∃ z, z = rr := ⟨_, rfl⟩
  refine am_ev.kg 6 (pc' := 62) (lv' := [.ref 123, .int x1, .int x2, .long l3, am_ju, .int s0, .long (l3 &&& r2), am_ju, am_ju, am_ju, am_ju]) (st' := [.int x2, .int x1, .ref 114]) (h' := (zl sn sx, xa xm T D r B (xb V L F R S P), M, q)) (fun _ _ => rfl) ?_
  refine am_ev.call rfl rfl rfl ((s_Board_inFront_B hc).mono (by decide)) ?_
  show am_ev _ k_Mover_pawnTargets (65, [.ref 123, .int x1, .int x2, .long l3, am_ju, .int s0, .long (l3 &&& r2), am_ju, am_ju, am_ju, am_ju], [.int r3], (zl sn sx, xa xm T D r B (xb V L F R S P), M, q)) oo
  rcases am_if hM with ⟨c6, hM⟩ | ⟨c6, hM⟩
  · refine am_ev.kt 3 82 72 [.ref 123, .int x1, .int x2, .long l3, am_ju, .int s0, .long (l3 &&& r2), am_ju, .int r3, am_ju, am_ju] [] (zl sn sx, xa xm T D r B (xb V L F R S P), M, q) c6 (fun _ _ => rfl) ?_
    cases hM
    cases hx
    exact am_ev.kf 2 (fun _ _ => rfl)
  · refine am_ev.ke 3 82 72 [.ref 123, .int x1, .int x2, .long l3, am_ju, .int s0, .long (l3 &&& r2), am_ju, .int r3, am_ju, am_ju] [] (zl sn sx, xa xm T D r B (xb V L F R S P), M, q) c6 (fun _ _ => rfl) ?_
    obtain ⟨c7, hM⟩ := am_ifn hM
    refine am_ev.kc 4 79 [.ref 123, .int x1, .int x2, .long l3, am_ju, .int s0, .long (l3 &&& r2), am_ju, .int r3, am_ju, am_ju] [.int ((bd_men B) (r3).toNatClampNeg)] (zl sn sx, xa xm T D r B (xb V L F R S P), M, q) c7 (fun _ _ => rfl) ?_
    rcases am_if hM with ⟨c8, hM⟩ | ⟨c8, hM⟩
    · refine am_ev.kt 1 85 82 [.ref 123, .int x1, .int x2, .long l3, am_ju, .int s0, .long (l3 &&& r2), am_ju, .int r3, am_ju, am_ju] [] (zl sn sx, xa xm T D r B (xb V L F R S P), M, q) c8 (fun _ _ => rfl) ?_
      obtain ⟨rr, hc, hM⟩ := am_bind hM
      obtain ⟨r4, rfl⟩ : ∃ z, z = rr := ⟨_, rfl⟩
      refine am_ev.kg 10 (pc' := 101) (lv' := [.ref 123, .int x1, .int x2, .long l3, am_ju, .int s0, .long ((l3 &&& r2) ||| (am_shl (1 : Int64) r3)), am_ju, .int r3, am_ju, am_ju]) (st' := [.int x2, .int r3, .ref 114]) (h' := (zl sn sx, xa xm T D r B (xb V L F R S P), M, q)) (fun _ _ => rfl) ?_
      refine am_ev.call rfl rfl rfl ((s_Board_inFront_B hc).mono (by decide)) ?_
      show am_ev _ k_Mover_pawnTargets (104, [.ref 123, .int x1, .int x2, .long l3, am_ju, .int s0, .long ((l3 &&& r2) ||| (am_shl (1 : Int64) r3)), am_ju, .int r3, am_ju, am_ju], [.int r4], (zl sn sx, xa xm T D r B (xb V L F R S P), M, q)) oo
      rcases am_if hM with ⟨c9, hM⟩ | ⟨c9, hM⟩
      · refine am_ev.kt 6 117 113 [.ref 123, .int x1, .int x2, .long l3, am_ju, .int s0, .long ((l3 &&& r2) ||| (am_shl (1 : Int64) r3)), am_ju, .int r3, .int r4, am_ju] [.int (x1 >>> ((3 : Int32) &&& 31))] (zl sn sx, xa xm T D r B (xb V L F R S P), M, q) c9 (fun _ _ => rfl) ?_
        refine am_ev.kg 1 (pc' := 119) (lv' := [.ref 123, .int x1, .int x2, .long l3, am_ju, .int s0, .long ((l3 &&& r2) ||| (am_shl (1 : Int64) r3)), am_ju, .int r3, .int r4, am_ju]) (st' := [.int (6 : Int32), .int (x1 >>> ((3 : Int32) &&& 31))]) (h' := (zl sn sx, xa xm T D r B (xb V L F R S P), M, q)) (fun _ _ => rfl) ?_
        refine am_ev.wk (lv' := [.ref 123, am_ju, am_ju, am_ju, am_ju, am_ju, .long ((l3 &&& r2) ||| (am_shl (1 : Int64) r3)), am_ju, am_ju, .int r4, am_ju]) (am_lc (Or.inr rfl) (am_lc (Or.inl rfl) (am_lc (Or.inl rfl) (am_lc (Or.inl rfl) (am_lc (Or.inr rfl) (am_lc (Or.inl rfl) (am_lc (Or.inr rfl) (am_lc (Or.inr rfl) (am_lc (Or.inl rfl) (am_lc (Or.inr rfl) (am_lc (Or.inr rfl) am_ln))))))))))) ?_
        exact sj_Mover_pawnTargets_119 hx hM
      · refine am_ev.ke 6 117 113 [.ref 123, .int x1, .int x2, .long l3, am_ju, .int s0, .long ((l3 &&& r2) ||| (am_shl (1 : Int64) r3)), am_ju, .int r3, .int r4, am_ju] [.int (x1 >>> ((3 : Int32) &&& 31))] (zl sn sx, xa xm T D r B (xb V L F R S P), M, q) c9 (fun _ _ => rfl) ?_
        refine am_ev.kg 2 (pc' := 119) (lv' := [.ref 123, .int x1, .int x2, .long l3, am_ju, .int s0, .long ((l3 &&& r2) ||| (am_shl (1 : Int64) r3)), am_ju, .int r3, .int r4, am_ju]) (st' := [.int (1 : Int32), .int (x1 >>> ((3 : Int32) &&& 31))]) (h' := (zl sn sx, xa xm T D r B (xb V L F R S P), M, q)) (fun _ _ => rfl) ?_
        refine am_ev.wk (lv' := [.ref 123, am_ju, am_ju, am_ju, am_ju, am_ju, .long ((l3 &&& r2) ||| (am_shl (1 : Int64) r3)), am_ju, am_ju, .int r4, am_ju]) (am_lc (Or.inr rfl) (am_lc (Or.inl rfl) (am_lc (Or.inl rfl) (am_lc (Or.inl rfl) (am_lc (Or.inr rfl) (am_lc (Or.inl rfl) (am_lc (Or.inr rfl) (am_lc (Or.inr rfl) (am_lc (Or.inl rfl) (am_lc (Or.inr rfl) (am_lc (Or.inr rfl) am_ln))))))))))) ?_
        exact sj_Mover_pawnTargets_119 hx hM
    · refine am_ev.ke 1 85 82 [.ref 123, .int x1, .int x2, .long l3, am_ju, .int s0, .long (l3 &&& r2), am_ju, .int r3, am_ju, am_ju] [] (zl sn sx, xa xm T D r B (xb V L F R S P), M, q) c8 (fun _ _ => rfl) ?_
      cases hM
      cases hx
      exact am_ev.kf 2 (fun _ _ => rfl)
theorem se_Mover_pawnTargets {fu : Nat} {sn : Nat} {sx : Nat → Int32} {M : List am_C} {q : Nat × Nat} {T : TxT} {D : BdT} {r : RdT} {B : BdT} {V : MvT} {L : RwT} {F : RwT} {R : Nat → RwT} {S : SoT} {P : HeT} {x1 : Int32} {oo : am_O} {e : Int64} (hx : y_Mover_pawnTargets sn sx M q T D r B V L F R S P oo e) (hM : f_Mover_pawnTargets fu x1 B = some e) : am_ev 2 k_Mover_pawnTargets (0, [.ref 123, .int x1, am_ju, am_ju, am_ju, am_ju, am_ju, am_ju, am_ju, am_ju, am_ju], [], (zl sn sx, xa xm T D r B (xb V L F R S P), M, q)) oo := by
  unfold f_Mover_pawnTargets at hM
  obtain ⟨c10, hM⟩ := am_ifn hM
  refine am_ev.kc 11 19 [.ref 123, .int x1, .int (bd_side B), am_ju, am_ju, am_ju, am_ju, am_ju, am_ju, am_ju, am_ju] [.long ((bd_held B) (((1 : Int32) - (bd_side B))).toNatClampNeg)] (zl sn sx, xa xm T D r B (xb V L F R S P), M, q) c10 (fun _ _ => rfl) ?_
  obtain ⟨rr, hc, hM⟩ := am_bind hM
  obtain ⟨r1, rfl⟩ : ∃ z, z = rr := ⟨_, rfl⟩
  refine am_ev.kg 1 (pc' := 20) (lv' := [.ref 123, .int x1, .int (bd_side B), am_ju, am_ju, am_ju, am_ju, am_ju, am_ju, am_ju, am_ju]) (st' := [.ref 123, .long ((bd_held B) (((1 : Int32) - (bd_side B))).toNatClampNeg)]) (h' := (zl sn sx, xa xm T D r B (xb V L F R S P), M, q)) (fun _ _ => rfl) ?_
  refine am_ev.call rfl rfl rfl ((s_Mover_passedBit hc).mono (by decide)) ?_
  show am_ev _ k_Mover_pawnTargets (23, [.ref 123, .int x1, .int (bd_side B), am_ju, am_ju, am_ju, am_ju, am_ju, am_ju, am_ju, am_ju], [.long r1, .long ((bd_held B) (((1 : Int32) - (bd_side B))).toNatClampNeg)], (zl sn sx, xa xm T D r B (xb V L F R S P), M, q)) oo
  rcases am_if hM with ⟨c11, hM⟩ | ⟨c11, hM⟩
  · refine am_ev.kt 4 33 29 [.ref 123, .int x1, .int (bd_side B), .long (((bd_held B) (((1 : Int32) - (bd_side B))).toNatClampNeg) ||| r1), am_ju, am_ju, am_ju, am_ju, am_ju, am_ju, am_ju] [] (zl sn sx, xa xm T D r B (xb V L F R S P), M, q) c11 (fun _ _ => rfl) ?_
    refine am_ev.kg 1 (pc' := 35) (lv' := [.ref 123, .int x1, .int (bd_side B), .long (((bd_held B) (((1 : Int32) - (bd_side B))).toNatClampNeg) ||| r1), am_ju, am_ju, am_ju, am_ju, am_ju, am_ju, am_ju]) (st' := [.int (6 : Int32)]) (h' := (zl sn sx, xa xm T D r B (xb V L F R S P), M, q)) (fun _ _ => rfl) ?_
    exact sj_Mover_pawnTargets_35 hx hM
  · refine am_ev.ke 4 33 29 [.ref 123, .int x1, .int (bd_side B), .long (((bd_held B) (((1 : Int32) - (bd_side B))).toNatClampNeg) ||| r1), am_ju, am_ju, am_ju, am_ju, am_ju, am_ju, am_ju] [] (zl sn sx, xa xm T D r B (xb V L F R S P), M, q) c11 (fun _ _ => rfl) ?_
    refine am_ev.kg 2 (pc' := 35) (lv' := [.ref 123, .int x1, .int (bd_side B), .long (((bd_held B) (((1 : Int32) - (bd_side B))).toNatClampNeg) ||| r1), am_ju, am_ju, am_ju, am_ju, am_ju, am_ju, am_ju]) (st' := [.int (4 : Int32)]) (h' := (zl sn sx, xa xm T D r B (xb V L F R S P), M, q)) (fun _ _ => rfl) ?_
    exact sj_Mover_pawnTargets_35 hx hM
theorem s_Mover_pawnTargets {fu : Nat} {sn : Nat} {sx : Nat → Int32} {M : List am_C} {q : Nat × Nat} {T : TxT} {D : BdT} {r : RdT} {B : BdT} {V : MvT} {L : RwT} {F : RwT} {R : Nat → RwT} {S : SoT} {P : HeT} {x1 : Int32} {ov : Int64} (hM : f_Mover_pawnTargets fu x1 B = some ov) : am_cv 3 k_Mover_pawnTargets [.ref 123, .int x1] (zl sn sx, xa xm T D r B (xb V L F R S P), M, q) (.inl (some (.long ov)), (zl sn sx, xa xm T D r B (xb V L F R S P), M, q)) := am_cv.of rfl (se_Mover_pawnTargets (e := ov) (show y_Mover_pawnTargets sn sx M q T D r B V L F R S P _ ov from rfl) hM)
def y_Mover_castlingTargets (sn : Nat) (sx : Nat → Int32) (M : List am_C) (q : Nat × Nat) (T : TxT) (D : BdT) (r : RdT) (B : BdT) (V : MvT) (L : RwT) (F : RwT) (R : Nat → RwT) (S : SoT) (P : HeT) (oo : am_O) : Int64 → Prop
  | ov => oo = (.inl (some (.long ov)), (zl sn sx, xa xm T D r B (xb V L F R S P), M, q))
theorem sj_Mover_castlingTargets_217 {fu : Nat} {sn : Nat} {sx : Nat → Int32} {M : List am_C} {q : Nat × Nat} {T : TxT} {D : BdT} {r : RdT} {B : BdT} {V : MvT} {L : RwT} {F : RwT} {R : Nat → RwT} {S : SoT} {P : HeT} {x1 : Int32} {x8 : Int32} {t0 : Int64} {oo : am_O} {e : Int64} (hx : y_Mover_castlingTargets sn sx M q T D r B V L F R S P oo e) (hM : j_Mover_castlingTargets_217 fu B x1 x8 t0 = some e) : am_ev 2 k_Mover_castlingTargets (217, [am_ju, .int x1, am_ju, am_ju, am_ju, am_ju, am_ju, am_ju, .int x8], [.long t0], (zl sn sx, xa xm T D r B (xb V L F R S P), M, q)) oo := by
  unfold j_Mover_castlingTargets_217 at hM
  rcases am_if hM with ⟨c1, hM⟩ | ⟨c1, hM⟩
  · refine am_ev.kt 2 230 222 [am_ju, .int x1, am_ju, am_ju, am_ju, am_ju, am_ju, am_ju, .int x8] [.long t0] (zl sn sx, xa xm T D r B (xb V L F R S P), M, q) c1 (fun _ _ => rfl) ?_
    cases hM
    cases hx
    exact am_ev.kf 3 (fun _ _ => rfl)
  · refine am_ev.ke 2 230 222 [am_ju, .int x1, am_ju, am_ju, am_ju, am_ju, am_ju, am_ju, .int x8] [.long t0] (zl sn sx, xa xm T D r B (xb V L F R S P), M, q) c1 (fun _ _ => rfl) ?_
    cases hM
    cases hx
    exact am_ev.kf 8 (fun _ _ => rfl)
theorem sj_Mover_castlingTargets_188 {fu : Nat} {sn : Nat} {sx : Nat → Int32} {M : List am_C} {q : Nat × Nat} {T : TxT} {D : BdT} {r : RdT} {B : BdT} {V : MvT} {L : RwT} {F : RwT} {R : Nat → RwT} {S : SoT} {P : HeT} {x1 : Int32} {x4 : Int32} {x7 : Int32} {x8 : Int32} {oo : am_O} {e : Int64} (hx : y_Mover_castlingTargets sn sx M q T D r B V L F R S P oo e) (hM : j_Mover_castlingTargets_188 fu B x1 x4 x7 x8 = some e) : am_ev 2 k_Mover_castlingTargets (188, [.ref 123, .int x1, am_ju, am_ju, .int x4, am_ju, am_ju, .int x7, .int x8], [], (zl sn sx, xa xm T D r B (xb V L F R S P), M, q)) oo := by
  unfold j_Mover_castlingTargets_188 at hM
  obtain ⟨rr, hc, hM⟩ := am_bind hM
  obtain ⟨r3, rfl⟩ : ∃ z, z = rr := ⟨_, rfl⟩
  refine am_ev.kg 4 (pc' := 195) (lv' := [.ref 123, .int x1, am_ju, am_ju, .int x4, am_ju, am_ju, .int x7, .int x8]) (st' := [.int x4, .int x1, .ref 114]) (h' := (zl sn sx, xa xm T D r B (xb V L F R S P), M, q)) (fun _ _ => rfl) ?_
  refine am_ev.call rfl rfl rfl ((s_Board_attacked_B hc).mono (by decide)) ?_
  show am_ev _ k_Mover_castlingTargets (198, [.ref 123, .int x1, am_ju, am_ju, .int x4, am_ju, am_ju, .int x7, .int x8], [.int r3], (zl sn sx, xa xm T D r B (xb V L F R S P), M, q)) oo
  rcases am_if hM with ⟨c2, hM⟩ | ⟨c2, hM⟩
  · refine am_ev.kt 1 203 201 [.ref 123, .int x1, am_ju, am_ju, .int x4, am_ju, am_ju, .int x7, .int x8] [] (zl sn sx, xa xm T D r B (xb V L F R S P), M, q) c2 (fun _ _ => rfl) ?_
    rcases am_if hM with ⟨c3, hM⟩ | ⟨c3, hM⟩
    · refine am_ev.kt 2 216 208 [.ref 123, .int x1, am_ju, am_ju, .int x4, am_ju, am_ju, .int x7, .int x8] [] (zl sn sx, xa xm T D r B (xb V L F R S P), M, q) c3 (fun _ _ => rfl) ?_
      refine am_ev.kg 1 (pc' := 217) (lv' := [.ref 123, .int x1, am_ju, am_ju, .int x4, am_ju, am_ju, .int x7, .int x8]) (st' := [.long (0 : Int64)]) (h' := (zl sn sx, xa xm T D r B (xb V L F R S P), M, q)) (fun _ _ => rfl) ?_
      refine am_ev.wk (lv' := [am_ju, .int x1, am_ju, am_ju, am_ju, am_ju, am_ju, am_ju, .int x8]) (am_lc (Or.inl rfl) (am_lc (Or.inr rfl) (am_lc (Or.inr rfl) (am_lc (Or.inr rfl) (am_lc (Or.inl rfl) (am_lc (Or.inr rfl) (am_lc (Or.inr rfl) (am_lc (Or.inl rfl) (am_lc (Or.inr rfl) am_ln))))))))) ?_
      exact sj_Mover_castlingTargets_217 hx hM
    · refine am_ev.ke 2 216 208 [.ref 123, .int x1, am_ju, am_ju, .int x4, am_ju, am_ju, .int x7, .int x8] [] (zl sn sx, xa xm T D r B (xb V L F R S P), M, q) c3 (fun _ _ => rfl) ?_
      refine am_ev.kg 6 (pc' := 217) (lv' := [.ref 123, .int x1, am_ju, am_ju, .int x4, am_ju, am_ju, .int x7, .int x8]) (st' := [.long (am_shl (1 : Int64) (x1 + (2 : Int32)))]) (h' := (zl sn sx, xa xm T D r B (xb V L F R S P), M, q)) (fun _ _ => rfl) ?_
      refine am_ev.wk (lv' := [am_ju, .int x1, am_ju, am_ju, am_ju, am_ju, am_ju, am_ju, .int x8]) (am_lc (Or.inl rfl) (am_lc (Or.inr rfl) (am_lc (Or.inr rfl) (am_lc (Or.inr rfl) (am_lc (Or.inl rfl) (am_lc (Or.inr rfl) (am_lc (Or.inr rfl) (am_lc (Or.inl rfl) (am_lc (Or.inr rfl) am_ln))))))))) ?_
      exact sj_Mover_castlingTargets_217 hx hM
  · refine am_ev.ke 1 203 201 [.ref 123, .int x1, am_ju, am_ju, .int x4, am_ju, am_ju, .int x7, .int x8] [] (zl sn sx, xa xm T D r B (xb V L F R S P), M, q) c2 (fun _ _ => rfl) ?_
    cases hM
    cases hx
    exact am_ev.kf 2 (fun _ _ => rfl)
theorem sj_Mover_castlingTargets_176 {fu : Nat} {sn : Nat} {sx : Nat → Int32} {M : List am_C} {q : Nat × Nat} {T : TxT} {D : BdT} {r : RdT} {B : BdT} {V : MvT} {L : RwT} {F : RwT} {R : Nat → RwT} {S : SoT} {P : HeT} {x1 : Int32} {x4 : Int32} {x7 : Int32} {s0 : Int32} {oo : am_O} {e : Int64} (hx : y_Mover_castlingTargets sn sx M q T D r B V L F R S P oo e) (hM : j_Mover_castlingTargets_176 fu B x1 x4 x7 s0 = some e) : am_ev 2 k_Mover_castlingTargets (176, [.ref 123, .int x1, am_ju, am_ju, .int x4, am_ju, am_ju, .int x7, am_ju], [.int s0], (zl sn sx, xa xm T D r B (xb V L F R S P), M, q)) oo := by
  unfold j_Mover_castlingTargets_176 at hM
  rcases am_if hM with ⟨c4, hM⟩ | ⟨c4, hM⟩
  · refine am_ev.kt 3 188 183 [.ref 123, .int x1, am_ju, am_ju, .int x4, am_ju, am_ju, .int x7, .int s0] [] (zl sn sx, xa xm T D r B (xb V L F R S P), M, q) c4 (fun _ _ => rfl) ?_
    exact sj_Mover_castlingTargets_188 hx hM
  · refine am_ev.ke 3 188 183 [.ref 123, .int x1, am_ju, am_ju, .int x4, am_ju, am_ju, .int x7, .int s0] [] (zl sn sx, xa xm T D r B (xb V L F R S P), M, q) c4 (fun _ _ => rfl) ?_
    rcases am_if hM with ⟨c5, hM⟩ | ⟨c5, hM⟩
    · refine am_ev.kt 2 201 188 [.ref 123, .int x1, am_ju, am_ju, .int x4, am_ju, am_ju, .int x7, .int s0] [] (zl sn sx, xa xm T D r B (xb V L F R S P), M, q) c5 (fun _ _ => rfl) ?_
      cases hM
      cases hx
      exact am_ev.kf 2 (fun _ _ => rfl)
    · refine am_ev.ke 2 201 188 [.ref 123, .int x1, am_ju, am_ju, .int x4, am_ju, am_ju, .int x7, .int s0] [] (zl sn sx, xa xm T D r B (xb V L F R S P), M, q) c5 (fun _ _ => rfl) ?_
      exact sj_Mover_castlingTargets_188 hx hM
theorem sj_Mover_castlingTargets_175 {fu : Nat} {sn : Nat} {sx : Nat → Int32} {M : List am_C} {q : Nat × Nat} {T : TxT} {D : BdT} {r : RdT} {B : BdT} {V : MvT} {L : RwT} {F : RwT} {R : Nat → RwT} {S : SoT} {P : HeT} {x1 : Int32} {x4 : Int32} {x7 : Int32} {oo : am_O} {e : Int64} (hx : y_Mover_castlingTargets sn sx M q T D r B V L F R S P oo e) (hM : j_Mover_castlingTargets_175 fu B x1 x4 x7 = some e) : am_ev 2 k_Mover_castlingTargets (175, [.ref 123, .int x1, am_ju, am_ju, .int x4, am_ju, am_ju, .int x7, am_ju], [], (zl sn sx, xa xm T D r B (xb V L F R S P), M, q)) oo := by
  unfold j_Mover_castlingTargets_175 at hM
  refine am_ev.kg 1 (pc' := 176) (lv' := [.ref 123, .int x1, am_ju, am_ju, .int x4, am_ju, am_ju, .int x7, am_ju]) (st' := [.int (0 : Int32)]) (h' := (zl sn sx, xa xm T D r B (xb V L F R S P), M, q)) (fun _ _ => rfl) ?_
  exact sj_Mover_castlingTargets_176 hx hM
theorem sj_Mover_castlingTargets_133 {fu : Nat} {sn : Nat} {sx : Nat → Int32} {M : List am_C} {q : Nat × Nat} {T : TxT} {D : BdT} {r : RdT} {B : BdT} {V : MvT} {L : RwT} {F : RwT} {R : Nat → RwT} {S : SoT} {P : HeT} {x1 : Int32} {x3 : Int32} {x4 : Int32} {l5 : Int64} {s0 : Int32} {oo : am_O} {e : Int64} (hx : y_Mover_castlingTargets sn sx M q T D r B V L F R S P oo e) (hM : j_Mover_castlingTargets_133 fu B x1 x3 x4 l5 s0 = some e) : am_ev 2 k_Mover_castlingTargets (133, [.ref 123, .int x1, am_ju, .int x3, .int x4, .long l5, am_ju, am_ju, am_ju], [.int s0], (zl sn sx, xa xm T D r B (xb V L F R S P), M, q)) oo := by
  unfold j_Mover_castlingTargets_133 at hM
  rcases am_if hM with ⟨c6, hM⟩ | ⟨c6, hM⟩
  · refine am_ev.kt 5 175 141 [.ref 123, .int x1, am_ju, .int x3, .int x4, .long l5, am_ju, .int s0, am_ju] [] (zl sn sx, xa xm T D r B (xb V L F R S P), M, q) c6 (fun _ _ => rfl) ?_
    refine am_ev.wk (lv' := [.ref 123, .int x1, am_ju, am_ju, .int x4, am_ju, am_ju, .int s0, am_ju]) (am_lc (Or.inr rfl) (am_lc (Or.inr rfl) (am_lc (Or.inr rfl) (am_lc (Or.inl rfl) (am_lc (Or.inr rfl) (am_lc (Or.inl rfl) (am_lc (Or.inr rfl) (am_lc (Or.inr rfl) (am_lc (Or.inr rfl) am_ln))))))))) ?_
    exact sj_Mover_castlingTargets_175 hx hM
  · refine am_ev.ke 5 175 141 [.ref 123, .int x1, am_ju, .int x3, .int x4, .long l5, am_ju, .int s0, am_ju] [] (zl sn sx, xa xm T D r B (xb V L F R S P), M, q) c6 (fun _ _ => rfl) ?_
    rcases am_if hM with ⟨c7, hM⟩ | ⟨c7, hM⟩
    · refine am_ev.kt 10 175 156 [.ref 123, .int x1, am_ju, .int x3, .int x4, .long l5, am_ju, .int s0, am_ju] [] (zl sn sx, xa xm T D r B (xb V L F R S P), M, q) c7 (fun _ _ => rfl) ?_
      refine am_ev.wk (lv' := [.ref 123, .int x1, am_ju, am_ju, .int x4, am_ju, am_ju, .int s0, am_ju]) (am_lc (Or.inr rfl) (am_lc (Or.inr rfl) (am_lc (Or.inr rfl) (am_lc (Or.inl rfl) (am_lc (Or.inr rfl) (am_lc (Or.inl rfl) (am_lc (Or.inr rfl) (am_lc (Or.inr rfl) (am_lc (Or.inr rfl) am_ln))))))))) ?_
      exact sj_Mover_castlingTargets_175 hx hM
    · refine am_ev.ke 10 175 156 [.ref 123, .int x1, am_ju, .int x3, .int x4, .long l5, am_ju, .int s0, am_ju] [] (zl sn sx, xa xm T D r B (xb V L F R S P), M, q) c7 (fun _ _ => rfl) ?_
      obtain ⟨rr, hc, hM⟩ := am_bind hM
      obtain ⟨r2, rfl⟩ : ∃ z, z = rr := ⟨_, rfl⟩
      refine am_ev.kg 6 (pc' := 165) (lv' := [.ref 123, .int x1, am_ju, .int x3, .int x4, .long l5, am_ju, .int s0, am_ju]) (st' := [.int x4, .int (x1 - (1 : Int32)), .ref 114]) (h' := (zl sn sx, xa xm T D r B (xb V L F R S P), M, q)) (fun _ _ => rfl) ?_
      refine am_ev.call rfl rfl rfl ((s_Board_attacked_B hc).mono (by decide)) ?_
      show am_ev _ k_Mover_castlingTargets (168, [.ref 123, .int x1, am_ju, .int x3, .int x4, .long l5, am_ju, .int s0, am_ju], [.int r2], (zl sn sx, xa xm T D r B (xb V L F R S P), M, q)) oo
      rcases am_if hM with ⟨c8, hM⟩ | ⟨c8, hM⟩
      · refine am_ev.kt 1 175 171 [.ref 123, .int x1, am_ju, .int x3, .int x4, .long l5, am_ju, .int s0, am_ju] [] (zl sn sx, xa xm T D r B (xb V L F R S P), M, q) c8 (fun _ _ => rfl) ?_
        refine am_ev.wk (lv' := [.ref 123, .int x1, am_ju, am_ju, .int x4, am_ju, am_ju, .int s0, am_ju]) (am_lc (Or.inr rfl) (am_lc (Or.inr rfl) (am_lc (Or.inr rfl) (am_lc (Or.inl rfl) (am_lc (Or.inr rfl) (am_lc (Or.inl rfl) (am_lc (Or.inr rfl) (am_lc (Or.inr rfl) (am_lc (Or.inr rfl) am_ln))))))))) ?_
        exact sj_Mover_castlingTargets_175 hx hM
      · refine am_ev.ke 1 175 171 [.ref 123, .int x1, am_ju, .int x3, .int x4, .long l5, am_ju, .int s0, am_ju] [] (zl sn sx, xa xm T D r B (xb V L F R S P), M, q) c8 (fun _ _ => rfl) ?_
        refine am_ev.kg 2 (pc' := 176) (lv' := [.ref 123, .int x1, am_ju, .int x3, .int x4, .long l5, am_ju, .int s0, am_ju]) (st' := [.int (1 : Int32)]) (h' := (zl sn sx, xa xm T D r B (xb V L F R S P), M, q)) (fun _ _ => rfl) ?_
        refine am_ev.wk (lv' := [.ref 123, .int x1, am_ju, am_ju, .int x4, am_ju, am_ju, .int s0, am_ju]) (am_lc (Or.inr rfl) (am_lc (Or.inr rfl) (am_lc (Or.inr rfl) (am_lc (Or.inl rfl) (am_lc (Or.inr rfl) (am_lc (Or.inl rfl) (am_lc (Or.inr rfl) (am_lc (Or.inr rfl) (am_lc (Or.inr rfl) am_ln))))))))) ?_
        exact sj_Mover_castlingTargets_176 hx hM
theorem sj_Mover_castlingTargets_132 {fu : Nat} {sn : Nat} {sx : Nat → Int32} {M : List am_C} {q : Nat × Nat} {T : TxT} {D : BdT} {r : RdT} {B : BdT} {V : MvT} {L : RwT} {F : RwT} {R : Nat → RwT} {S : SoT} {P : HeT} {x1 : Int32} {x3 : Int32} {x4 : Int32} {l5 : Int64} {oo : am_O} {e : Int64} (hx : y_Mover_castlingTargets sn sx M q T D r B V L F R S P oo e) (hM : j_Mover_castlingTargets_132 fu B x1 x3 x4 l5 = some e) : am_ev 2 k_Mover_castlingTargets (132, [.ref 123, .int x1, am_ju, .int x3, .int x4, .long l5, am_ju, am_ju, am_ju], [], (zl sn sx, xa xm T D r B (xb V L F R S P), M, q)) oo := by
  unfold j_Mover_castlingTargets_132 at hM
  refine am_ev.kg 1 (pc' := 133) (lv' := [.ref 123, .int x1, am_ju, .int x3, .int x4, .long l5, am_ju, am_ju, am_ju]) (st' := [.int (0 : Int32)]) (h' := (zl sn sx, xa xm T D r B (xb V L F R S P), M, q)) (fun _ _ => rfl) ?_
  exact sj_Mover_castlingTargets_133 hx hM
theorem sj_Mover_castlingTargets_57 {fu : Nat} {sn : Nat} {sx : Nat → Int32} {M : List am_C} {q : Nat × Nat} {T : TxT} {D : BdT} {r : RdT} {B : BdT} {V : MvT} {L : RwT} {F : RwT} {R : Nat → RwT} {S : SoT} {P : HeT} {x1 : Int32} {x3 : Int32} {s0 : Int32} {s1 : Int32} {oo : am_O} {e : Int64} (hx : y_Mover_castlingTargets sn sx M q T D r B V L F R S P oo e) (hM : j_Mover_castlingTargets_57 fu B x1 x3 s0 s1 = some e) : am_ev 2 k_Mover_castlingTargets (57, [.ref 123, .int x1, am_ju, .int x3, am_ju, am_ju, am_ju, am_ju, am_ju], [.int s1, .int s0], (zl sn sx, xa xm T D r B (xb V L F R S P), M, q)) oo := by
  unfold j_Mover_castlingTargets_57 at hM
  rcases am_if hM with ⟨c9, hM⟩ | ⟨c9, hM⟩
  · refine am_ev.kt 1 62 60 [.ref 123, .int x1, am_ju, .int x3, am_ju, am_ju, am_ju, am_ju, am_ju] [] (zl sn sx, xa xm T D r B (xb V L F R S P), M, q) c9 (fun _ _ => rfl) ?_
    obtain ⟨c10, hM⟩ := am_ifn hM
    refine am_ev.kc 11 82 [.ref 123, .int x1, am_ju, .int x3, .int ((1 : Int32) - (bd_side B)), am_ju, am_ju, am_ju, am_ju] [.long ((bd_held B) ((0 : Int32)).toNatClampNeg)] (zl sn sx, xa xm T D r B (xb V L F R S P), M, q) c10 (fun _ _ => rfl) ?_
    obtain ⟨c11, hM⟩ := am_ifn hM
    refine am_ev.kc 5 91 [.ref 123, .int x1, am_ju, .int x3, .int ((1 : Int32) - (bd_side B)), am_ju, am_ju, am_ju, am_ju] [.long ((bd_held B) ((1 : Int32)).toNatClampNeg), .long ((bd_held B) ((0 : Int32)).toNatClampNeg)] (zl sn sx, xa xm T D r B (xb V L F R S P), M, q) c11 (fun _ _ => rfl) ?_
    rcases am_if hM with ⟨c12, hM⟩ | ⟨c12, hM⟩
    · refine am_ev.kt 6 132 100 [.ref 123, .int x1, am_ju, .int x3, .int ((1 : Int32) - (bd_side B)), .long (((bd_held B) ((0 : Int32)).toNatClampNeg) ||| ((bd_held B) ((1 : Int32)).toNatClampNeg)), am_ju, am_ju, am_ju] [] (zl sn sx, xa xm T D r B (xb V L F R S P), M, q) c12 (fun _ _ => rfl) ?_
      exact sj_Mover_castlingTargets_132 hx hM
    · refine am_ev.ke 6 132 100 [.ref 123, .int x1, am_ju, .int x3, .int ((1 : Int32) - (bd_side B)), .long (((bd_held B) ((0 : Int32)).toNatClampNeg) ||| ((bd_held B) ((1 : Int32)).toNatClampNeg)), am_ju, am_ju, am_ju] [] (zl sn sx, xa xm T D r B (xb V L F R S P), M, q) c12 (fun _ _ => rfl) ?_
      rcases am_if hM with ⟨c13, hM⟩ | ⟨c13, hM⟩
      · refine am_ev.kt 8 132 113 [.ref 123, .int x1, am_ju, .int x3, .int ((1 : Int32) - (bd_side B)), .long (((bd_held B) ((0 : Int32)).toNatClampNeg) ||| ((bd_held B) ((1 : Int32)).toNatClampNeg)), am_ju, am_ju, am_ju] [] (zl sn sx, xa xm T D r B (xb V L F R S P), M, q) c13 (fun _ _ => rfl) ?_
        exact sj_Mover_castlingTargets_132 hx hM
      · refine am_ev.ke 8 132 113 [.ref 123, .int x1, am_ju, .int x3, .int ((1 : Int32) - (bd_side B)), .long (((bd_held B) ((0 : Int32)).toNatClampNeg) ||| ((bd_held B) ((1 : Int32)).toNatClampNeg)), am_ju, am_ju, am_ju] [] (zl sn sx, xa xm T D r B (xb V L F R S P), M, q) c13 (fun _ _ => rfl) ?_
        obtain ⟨rr, hc, hM⟩ := am_bind hM
        obtain ⟨r1, rfl⟩ : ∃ z, z = rr := ⟨_, rfl⟩
        refine am_ev.kg 6 (pc' := 122) (lv' := [.ref 123, .int x1, am_ju, .int x3, .int ((1 : Int32) - (bd_side B)), .long (((bd_held B) ((0 : Int32)).toNatClampNeg) ||| ((bd_held B) ((1 : Int32)).toNatClampNeg)), am_ju, am_ju, am_ju]) (st' := [.int ((1 : Int32) - (bd_side B)), .int (x1 + (1 : Int32)), .ref 114]) (h' := (zl sn sx, xa xm T D r B (xb V L F R S P), M, q)) (fun _ _ => rfl) ?_
        refine am_ev.call rfl rfl rfl ((s_Board_attacked_B hc).mono (by decide)) ?_
        show am_ev _ k_Mover_castlingTargets (125, [.ref 123, .int x1, am_ju, .int x3, .int ((1 : Int32) - (bd_side B)), .long (((bd_held B) ((0 : Int32)).toNatClampNeg) ||| ((bd_held B) ((1 : Int32)).toNatClampNeg)), am_ju, am_ju, am_ju], [.int r1], (zl sn sx, xa xm T D r B (xb V L F R S P), M, q)) oo
        rcases am_if hM with ⟨c14, hM⟩ | ⟨c14, hM⟩
        · refine am_ev.kt 1 132 128 [.ref 123, .int x1, am_ju, .int x3, .int ((1 : Int32) - (bd_side B)), .long (((bd_held B) ((0 : Int32)).toNatClampNeg) ||| ((bd_held B) ((1 : Int32)).toNatClampNeg)), am_ju, am_ju, am_ju] [] (zl sn sx, xa xm T D r B (xb V L F R S P), M, q) c14 (fun _ _ => rfl) ?_
          exact sj_Mover_castlingTargets_132 hx hM
        · refine am_ev.ke 1 132 128 [.ref 123, .int x1, am_ju, .int x3, .int ((1 : Int32) - (bd_side B)), .long (((bd_held B) ((0 : Int32)).toNatClampNeg) ||| ((bd_held B) ((1 : Int32)).toNatClampNeg)), am_ju, am_ju, am_ju] [] (zl sn sx, xa xm T D r B (xb V L F R S P), M, q) c14 (fun _ _ => rfl) ?_
          refine am_ev.kg 2 (pc' := 133) (lv' := [.ref 123, .int x1, am_ju, .int x3, .int ((1 : Int32) - (bd_side B)), .long (((bd_held B) ((0 : Int32)).toNatClampNeg) ||| ((bd_held B) ((1 : Int32)).toNatClampNeg)), am_ju, am_ju, am_ju]) (st' := [.int (1 : Int32)]) (h' := (zl sn sx, xa xm T D r B (xb V L F R S P), M, q)) (fun _ _ => rfl) ?_
          exact sj_Mover_castlingTargets_133 hx hM
  · refine am_ev.ke 1 62 60 [.ref 123, .int x1, am_ju, .int x3, am_ju, am_ju, am_ju, am_ju, am_ju] [] (zl sn sx, xa xm T D r B (xb V L F R S P), M, q) c9 (fun _ _ => rfl) ?_
    cases hM
    cases hx
    exact am_ev.kf 2 (fun _ _ => rfl)
theorem sj_Mover_castlingTargets_41 {fu : Nat} {sn : Nat} {sx : Nat → Int32} {M : List am_C} {q : Nat × Nat} {T : TxT} {D : BdT} {r : RdT} {B : BdT} {V : MvT} {L : RwT} {F : RwT} {R : Nat → RwT} {S : SoT} {P : HeT} {x1 : Int32} {x2 : Int32} {s0 : Int32} {oo : am_O} {e : Int64} (hx : y_Mover_castlingTargets sn sx M q T D r B V L F R S P oo e) (hM : j_Mover_castlingTargets_41 fu B x1 x2 s0 = some e) : am_ev 2 k_Mover_castlingTargets (41, [.ref 123, .int x1, .int x2, am_ju, am_ju, am_ju, am_ju, am_ju, am_ju], [.int s0], (zl sn sx, xa xm T D r B (xb V L F R S P), M, q)) oo := by
  unfold j_Mover_castlingTargets_41 at hM
  rcases am_if hM with ⟨c15, hM⟩ | ⟨c15, hM⟩
  · refine am_ev.kt 3 60 46 [.ref 123, .int x1, .int x2, .int s0, am_ju, am_ju, am_ju, am_ju, am_ju] [] (zl sn sx, xa xm T D r B (xb V L F R S P), M, q) c15 (fun _ _ => rfl) ?_
    cases hM
    cases hx
    exact am_ev.kf 2 (fun _ _ => rfl)
  · refine am_ev.ke 3 60 46 [.ref 123, .int x1, .int x2, .int s0, am_ju, am_ju, am_ju, am_ju, am_ju] [] (zl sn sx, xa xm T D r B (xb V L F R S P), M, q) c15 (fun _ _ => rfl) ?_
    rcases am_if hM with ⟨c16, hM⟩ | ⟨c16, hM⟩
    · refine am_ev.kt 3 55 51 [.ref 123, .int x1, .int x2, .int s0, am_ju, am_ju, am_ju, am_ju, am_ju] [.int x1] (zl sn sx, xa xm T D r B (xb V L F R S P), M, q) c16 (fun _ _ => rfl) ?_
      refine am_ev.kg 1 (pc' := 57) (lv' := [.ref 123, .int x1, .int x2, .int s0, am_ju, am_ju, am_ju, am_ju, am_ju]) (st' := [.int (60 : Int32), .int x1]) (h' := (zl sn sx, xa xm T D r B (xb V L F R S P), M, q)) (fun _ _ => rfl) ?_
      refine am_ev.wk (lv' := [.ref 123, .int x1, am_ju, .int s0, am_ju, am_ju, am_ju, am_ju, am_ju]) (am_lc (Or.inr rfl) (am_lc (Or.inr rfl) (am_lc (Or.inl rfl) (am_lc (Or.inr rfl) (am_lc (Or.inr rfl) (am_lc (Or.inr rfl) (am_lc (Or.inr rfl) (am_lc (Or.inr rfl) (am_lc (Or.inr rfl) am_ln))))))))) ?_
      exact sj_Mover_castlingTargets_57 hx hM
    · refine am_ev.ke 3 55 51 [.ref 123, .int x1, .int x2, .int s0, am_ju, am_ju, am_ju, am_ju, am_ju] [.int x1] (zl sn sx, xa xm T D r B (xb V L F R S P), M, q) c16 (fun _ _ => rfl) ?_
      refine am_ev.kg 2 (pc' := 57) (lv' := [.ref 123, .int x1, .int x2, .int s0, am_ju, am_ju, am_ju, am_ju, am_ju]) (st' := [.int (4 : Int32), .int x1]) (h' := (zl sn sx, xa xm T D r B (xb V L F R S P), M, q)) (fun _ _ => rfl) ?_
      refine am_ev.wk (lv' := [.ref 123, .int x1, am_ju, .int s0, am_ju, am_ju, am_ju, am_ju, am_ju]) (am_lc (Or.inr rfl) (am_lc (Or.inr rfl) (am_lc (Or.inl rfl) (am_lc (Or.inr rfl) (am_lc (Or.inr rfl) (am_lc (Or.inr rfl) (am_lc (Or.inr rfl) (am_lc (Or.inr rfl) (am_lc (Or.inr rfl) am_ln))))))))) ?_
      exact sj_Mover_castlingTargets_57 hx hM
theorem sj_Mover_castlingTargets_15 {fu : Nat} {sn : Nat} {sx : Nat → Int32} {M : List am_C} {q : Nat × Nat} {T : TxT} {D : BdT} {r : RdT} {B : BdT} {V : MvT} {L : RwT} {F : RwT} {R : Nat → RwT} {S : SoT} {P : HeT} {x1 : Int32} {s0 : Int32} {oo : am_O} {e : Int64} (hx : y_Mover_castlingTargets sn sx M q T D r B V L F R S P oo e) (hM : j_Mover_castlingTargets_15 fu B x1 s0 = some e) : am_ev 2 k_Mover_castlingTargets (15, [.ref 123, .int x1, am_ju, am_ju, am_ju, am_ju, am_ju, am_ju, am_ju], [.int s0], (zl sn sx, xa xm T D r B (xb V L F R S P), M, q)) oo := by
  unfold j_Mover_castlingTargets_15 at hM
  rcases am_if hM with ⟨c17, hM⟩ | ⟨c17, hM⟩
  · refine am_ev.kt 3 32 20 [.ref 123, .int x1, .int s0, am_ju, am_ju, am_ju, am_ju, am_ju, am_ju] [] (zl sn sx, xa xm T D r B (xb V L F R S P), M, q) c17 (fun _ _ => rfl) ?_
    refine am_ev.kg 5 (pc' := 41) (lv' := [.ref 123, .int x1, .int s0, am_ju, am_ju, am_ju, am_ju, am_ju, am_ju]) (st' := [.int ((bd_rights B) >>> ((2 : Int32) &&& 31))]) (h' := (zl sn sx, xa xm T D r B (xb V L F R S P), M, q)) (fun _ _ => rfl) ?_
    exact sj_Mover_castlingTargets_41 hx hM
  · refine am_ev.ke 3 32 20 [.ref 123, .int x1, .int s0, am_ju, am_ju, am_ju, am_ju, am_ju, am_ju] [] (zl sn sx, xa xm T D r B (xb V L F R S P), M, q) c17 (fun _ _ => rfl) ?_
    refine am_ev.kg 6 (pc' := 41) (lv' := [.ref 123, .int x1, .int s0, am_ju, am_ju, am_ju, am_ju, am_ju, am_ju]) (st' := [.int ((bd_rights B) &&& (3 : Int32))]) (h' := (zl sn sx, xa xm T D r B (xb V L F R S P), M, q)) (fun _ _ => rfl) ?_
    exact sj_Mover_castlingTargets_41 hx hM
theorem se_Mover_castlingTargets {fu : Nat} {sn : Nat} {sx : Nat → Int32} {M : List am_C} {q : Nat × Nat} {T : TxT} {D : BdT} {r : RdT} {B : BdT} {V : MvT} {L : RwT} {F : RwT} {R : Nat → RwT} {S : SoT} {P : HeT} {x1 : Int32} {oo : am_O} {e : Int64} (hx : y_Mover_castlingTargets sn sx M q T D r B V L F R S P oo e) (hM : f_Mover_castlingTargets fu x1 B = some e) : am_ev 2 k_Mover_castlingTargets (0, [.ref 123, .int x1, am_ju, am_ju, am_ju, am_ju, am_ju, am_ju, am_ju], [], (zl sn sx, xa xm T D r B (xb V L F R S P), M, q)) oo := by
  unfold f_Mover_castlingTargets at hM
  rcases am_if hM with ⟨c18, hM⟩ | ⟨c18, hM⟩
  · refine am_ev.kt 4 14 10 [.ref 123, .int x1, am_ju, am_ju, am_ju, am_ju, am_ju, am_ju, am_ju] [] (zl sn sx, xa xm T D r B (xb V L F R S P), M, q) c18 (fun _ _ => rfl) ?_
    refine am_ev.kg 1 (pc' := 15) (lv' := [.ref 123, .int x1, am_ju, am_ju, am_ju, am_ju, am_ju, am_ju, am_ju]) (st' := [.int (0 : Int32)]) (h' := (zl sn sx, xa xm T D r B (xb V L F R S P), M, q)) (fun _ _ => rfl) ?_
    exact sj_Mover_castlingTargets_15 hx hM
  · refine am_ev.ke 4 14 10 [.ref 123, .int x1, am_ju, am_ju, am_ju, am_ju, am_ju, am_ju, am_ju] [] (zl sn sx, xa xm T D r B (xb V L F R S P), M, q) c18 (fun _ _ => rfl) ?_
    refine am_ev.kg 2 (pc' := 15) (lv' := [.ref 123, .int x1, am_ju, am_ju, am_ju, am_ju, am_ju, am_ju, am_ju]) (st' := [.int (1 : Int32)]) (h' := (zl sn sx, xa xm T D r B (xb V L F R S P), M, q)) (fun _ _ => rfl) ?_
    exact sj_Mover_castlingTargets_15 hx hM
theorem s_Mover_castlingTargets {fu : Nat} {sn : Nat} {sx : Nat → Int32} {M : List am_C} {q : Nat × Nat} {T : TxT} {D : BdT} {r : RdT} {B : BdT} {V : MvT} {L : RwT} {F : RwT} {R : Nat → RwT} {S : SoT} {P : HeT} {x1 : Int32} {ov : Int64} (hM : f_Mover_castlingTargets fu x1 B = some ov) : am_cv 3 k_Mover_castlingTargets [.ref 123, .int x1] (zl sn sx, xa xm T D r B (xb V L F R S P), M, q) (.inl (some (.long ov)), (zl sn sx, xa xm T D r B (xb V L F R S P), M, q)) := am_cv.of rfl (se_Mover_castlingTargets (e := ov) (show y_Mover_castlingTargets sn sx M q T D r B V L F R S P _ ov from rfl) hM)
def y_Mover_targets (sn : Nat) (sx : Nat → Int32) (M : List am_C) (q : Nat × Nat) (T : TxT) (D : BdT) (r : RdT) (B : BdT) (V : MvT) (L : RwT) (F : RwT) (R : Nat → RwT) (S : SoT) (P : HeT) (oo : am_O) : Int64 → Prop
  | ov => oo = (.inl (some (.long ov)), (zl sn sx, xa xm T D r B (xb V L F R S P), M, q))
theorem se_Mover_targets {fu : Nat} {sn : Nat} {sx : Nat → Int32} {M : List am_C} {q : Nat × Nat} {T : TxT} {D : BdT} {r : RdT} {B : BdT} {V : MvT} {L : RwT} {F : RwT} {R : Nat → RwT} {S : SoT} {P : HeT} {x1 : Int32} {oo : am_O} {e : Int64} (hx : y_Mover_targets sn sx M q T D r B V L F R S P oo e) (hM : f_Mover_targets fu x1 B = some e) : am_ev 3 k_Mover_targets (0, [.ref 123, .int x1, am_ju, am_ju], [], (zl sn sx, xa xm T D r B (xb V L F R S P), M, q)) oo := by
  unfold f_Mover_targets at hM
  obtain ⟨c1, hM⟩ := am_ifn hM
  refine am_ev.kc 7 15 [.ref 123, .int x1, am_ju, am_ju] [.long ((bd_held B) ((bd_side B)).toNatClampNeg)] (zl sn sx, xa xm T D r B (xb V L F R S P), M, q) c1 (fun _ _ => rfl) ?_
  obtain ⟨c2, hM⟩ := am_ifn hM
  refine am_ev.kc 7 26 [.ref 123, .int x1, .long (((bd_held B) ((bd_side B)).toNatClampNeg) ^^^ (-1 : Int64)), am_ju] [.int ((bd_men B) (x1).toNatClampNeg)] (zl sn sx, xa xm T D r B (xb V L F R S P), M, q) c2 (fun _ _ => rfl) ?_
  rcases am_if hM with ⟨c3, hM⟩ | ⟨c3, hM⟩
  · refine am_ev.kg 3 (pc' := 64) (lv' := [.ref 123, .int x1, .long (((bd_held B) ((bd_side B)).toNatClampNeg) ^^^ (-1 : Int64)), am_ju]) (st' := []) (h' := (zl sn sx, xa xm T D r B (xb V L F R S P), M, q)) (fun call kk => (show am_kw call k_Mover_targets 3 kk _ _ _ _ = cond (decide ((((bd_men B) (x1).toNatClampNeg) &&& (7 : Int32)) = (1 : Int32))) (kk 64 [.ref 123, .int x1, .long (((bd_held B) ((bd_side B)).toNatClampNeg) ^^^ (-1 : Int64)), am_ju] [] (zl sn sx, xa xm T D r B (xb V L F R S P), M, q)) (cond (decide ((((bd_men B) (x1).toNatClampNeg) &&& (7 : Int32)) = (2 : Int32))) (kk 70 [.ref 123, .int x1, .long (((bd_held B) ((bd_side B)).toNatClampNeg) ^^^ (-1 : Int64)), am_ju] [] (zl sn sx, xa xm T D r B (xb V L F R S P), M, q)) (cond (decide ((((bd_men B) (x1).toNatClampNeg) &&& (7 : Int32)) = (3 : Int32))) (kk 86 [.ref 123, .int x1, .long (((bd_held B) ((bd_side B)).toNatClampNeg) ^^^ (-1 : Int64)), am_ju] [] (zl sn sx, xa xm T D r B (xb V L F R S P), M, q)) (cond (decide ((((bd_men B) (x1).toNatClampNeg) &&& (7 : Int32)) = (4 : Int32))) (kk 102 [.ref 123, .int x1, .long (((bd_held B) ((bd_side B)).toNatClampNeg) ^^^ (-1 : Int64)), am_ju] [] (zl sn sx, xa xm T D r B (xb V L F R S P), M, q)) (cond (decide ((((bd_men B) (x1).toNatClampNeg) &&& (7 : Int32)) = (5 : Int32))) (kk 117 [.ref 123, .int x1, .long (((bd_held B) ((bd_side B)).toNatClampNeg) ^^^ (-1 : Int64)), am_ju] [] (zl sn sx, xa xm T D r B (xb V L F R S P), M, q)) (kk 133 [.ref 123, .int x1, .long (((bd_held B) ((bd_side B)).toNatClampNeg) ^^^ (-1 : Int64)), am_ju] [] (zl sn sx, xa xm T D r B (xb V L F R S P), M, q)))))) from rfl).trans (by rw [decide_eq_true c3]; rfl)) ?_
    obtain ⟨rr, hc, hM⟩ := am_bind hM
    obtain ⟨r1, rfl⟩ : ∃ z, z = rr := ⟨_, rfl⟩
    refine am_ev.kg 2 (pc' := 66) (lv' := [.ref 123, .int x1, .long (((bd_held B) ((bd_side B)).toNatClampNeg) ^^^ (-1 : Int64)), am_ju]) (st' := [.int x1, .ref 123]) (h' := (zl sn sx, xa xm T D r B (xb V L F R S P), M, q)) (fun _ _ => rfl) ?_
    refine am_ev.call rfl rfl rfl ((s_Mover_pawnTargets hc).mono (by decide)) ?_
    show am_ev _ k_Mover_targets (69, [.ref 123, .int x1, .long (((bd_held B) ((bd_side B)).toNatClampNeg) ^^^ (-1 : Int64)), am_ju], [.long r1], (zl sn sx, xa xm T D r B (xb V L F R S P), M, q)) oo
    cases hM
    cases hx
    exact am_ev.kf 1 (fun _ _ => rfl)
  · skip
    rcases am_if hM with ⟨c4, hM⟩ | ⟨c4, hM⟩
    · refine am_ev.kg 3 (pc' := 70) (lv' := [.ref 123, .int x1, .long (((bd_held B) ((bd_side B)).toNatClampNeg) ^^^ (-1 : Int64)), am_ju]) (st' := []) (h' := (zl sn sx, xa xm T D r B (xb V L F R S P), M, q)) (fun call kk => (show am_kw call k_Mover_targets 3 kk _ _ _ _ = cond (decide ((((bd_men B) (x1).toNatClampNeg) &&& (7 : Int32)) = (1 : Int32))) (kk 64 [.ref 123, .int x1, .long (((bd_held B) ((bd_side B)).toNatClampNeg) ^^^ (-1 : Int64)), am_ju] [] (zl sn sx, xa xm T D r B (xb V L F R S P), M, q)) (cond (decide ((((bd_men B) (x1).toNatClampNeg) &&& (7 : Int32)) = (2 : Int32))) (kk 70 [.ref 123, .int x1, .long (((bd_held B) ((bd_side B)).toNatClampNeg) ^^^ (-1 : Int64)), am_ju] [] (zl sn sx, xa xm T D r B (xb V L F R S P), M, q)) (cond (decide ((((bd_men B) (x1).toNatClampNeg) &&& (7 : Int32)) = (3 : Int32))) (kk 86 [.ref 123, .int x1, .long (((bd_held B) ((bd_side B)).toNatClampNeg) ^^^ (-1 : Int64)), am_ju] [] (zl sn sx, xa xm T D r B (xb V L F R S P), M, q)) (cond (decide ((((bd_men B) (x1).toNatClampNeg) &&& (7 : Int32)) = (4 : Int32))) (kk 102 [.ref 123, .int x1, .long (((bd_held B) ((bd_side B)).toNatClampNeg) ^^^ (-1 : Int64)), am_ju] [] (zl sn sx, xa xm T D r B (xb V L F R S P), M, q)) (cond (decide ((((bd_men B) (x1).toNatClampNeg) &&& (7 : Int32)) = (5 : Int32))) (kk 117 [.ref 123, .int x1, .long (((bd_held B) ((bd_side B)).toNatClampNeg) ^^^ (-1 : Int64)), am_ju] [] (zl sn sx, xa xm T D r B (xb V L F R S P), M, q)) (kk 133 [.ref 123, .int x1, .long (((bd_held B) ((bd_side B)).toNatClampNeg) ^^^ (-1 : Int64)), am_ju] [] (zl sn sx, xa xm T D r B (xb V L F R S P), M, q)))))) from rfl).trans (by rw [decide_eq_false c3, decide_eq_true c4]; rfl)) ?_
      obtain ⟨rr, hc, hM⟩ := am_bind hM
      obtain ⟨r2, rfl⟩ : ∃ z, z = rr := ⟨_, rfl⟩
      refine am_ev.kg 7 (pc' := 81) (lv' := [.ref 123, .int x1, .long (((bd_held B) ((bd_side B)).toNatClampNeg) ^^^ (-1 : Int64)), am_ju]) (st' := [.int (1 : Int32), .int (16 : Int32), .int (8 : Int32), .int x1, .ref 114, .long (((bd_held B) ((bd_side B)).toNatClampNeg) ^^^ (-1 : Int64))]) (h' := (zl sn sx, xa xm T D r B (xb V L F R S P), M, q)) (fun _ _ => rfl) ?_
      refine am_ev.call rfl rfl rfl ((s_Board_seen_B hc).mono (by decide)) ?_
      show am_ev _ k_Mover_targets (84, [.ref 123, .int x1, .long (((bd_held B) ((bd_side B)).toNatClampNeg) ^^^ (-1 : Int64)), am_ju], [.long r2, .long (((bd_held B) ((bd_side B)).toNatClampNeg) ^^^ (-1 : Int64))], (zl sn sx, xa xm T D r B (xb V L F R S P), M, q)) oo
      cases hM
      cases hx
      exact am_ev.kf 2 (fun _ _ => rfl)
    · skip
      rcases am_if hM with ⟨c5, hM⟩ | ⟨c5, hM⟩
      · refine am_ev.kg 3 (pc' := 86) (lv' := [.ref 123, .int x1, .long (((bd_held B) ((bd_side B)).toNatClampNeg) ^^^ (-1 : Int64)), am_ju]) (st' := []) (h' := (zl sn sx, xa xm T D r B (xb V L F R S P), M, q)) (fun call kk => (show am_kw call k_Mover_targets 3 kk _ _ _ _ = cond (decide ((((bd_men B) (x1).toNatClampNeg) &&& (7 : Int32)) = (1 : Int32))) (kk 64 [.ref 123, .int x1, .long (((bd_held B) ((bd_side B)).toNatClampNeg) ^^^ (-1 : Int64)), am_ju] [] (zl sn sx, xa xm T D r B (xb V L F R S P), M, q)) (cond (decide ((((bd_men B) (x1).toNatClampNeg) &&& (7 : Int32)) = (2 : Int32))) (kk 70 [.ref 123, .int x1, .long (((bd_held B) ((bd_side B)).toNatClampNeg) ^^^ (-1 : Int64)), am_ju] [] (zl sn sx, xa xm T D r B (xb V L F R S P), M, q)) (cond (decide ((((bd_men B) (x1).toNatClampNeg) &&& (7 : Int32)) = (3 : Int32))) (kk 86 [.ref 123, .int x1, .long (((bd_held B) ((bd_side B)).toNatClampNeg) ^^^ (-1 : Int64)), am_ju] [] (zl sn sx, xa xm T D r B (xb V L F R S P), M, q)) (cond (decide ((((bd_men B) (x1).toNatClampNeg) &&& (7 : Int32)) = (4 : Int32))) (kk 102 [.ref 123, .int x1, .long (((bd_held B) ((bd_side B)).toNatClampNeg) ^^^ (-1 : Int64)), am_ju] [] (zl sn sx, xa xm T D r B (xb V L F R S P), M, q)) (cond (decide ((((bd_men B) (x1).toNatClampNeg) &&& (7 : Int32)) = (5 : Int32))) (kk 117 [.ref 123, .int x1, .long (((bd_held B) ((bd_side B)).toNatClampNeg) ^^^ (-1 : Int64)), am_ju] [] (zl sn sx, xa xm T D r B (xb V L F R S P), M, q)) (kk 133 [.ref 123, .int x1, .long (((bd_held B) ((bd_side B)).toNatClampNeg) ^^^ (-1 : Int64)), am_ju] [] (zl sn sx, xa xm T D r B (xb V L F R S P), M, q)))))) from rfl).trans (by rw [decide_eq_false c3, decide_eq_false c4, decide_eq_true c5]; rfl)) ?_
        obtain ⟨rr, hc, hM⟩ := am_bind hM
        obtain ⟨r3, rfl⟩ : ∃ z, z = rr := ⟨_, rfl⟩
        refine am_ev.kg 7 (pc' := 97) (lv' := [.ref 123, .int x1, .long (((bd_held B) ((bd_side B)).toNatClampNeg) ^^^ (-1 : Int64)), am_ju]) (st' := [.int (7 : Int32), .int (8 : Int32), .int (4 : Int32), .int x1, .ref 114, .long (((bd_held B) ((bd_side B)).toNatClampNeg) ^^^ (-1 : Int64))]) (h' := (zl sn sx, xa xm T D r B (xb V L F R S P), M, q)) (fun _ _ => rfl) ?_
        refine am_ev.call rfl rfl rfl ((s_Board_seen_B hc).mono (by decide)) ?_
        show am_ev _ k_Mover_targets (100, [.ref 123, .int x1, .long (((bd_held B) ((bd_side B)).toNatClampNeg) ^^^ (-1 : Int64)), am_ju], [.long r3, .long (((bd_held B) ((bd_side B)).toNatClampNeg) ^^^ (-1 : Int64))], (zl sn sx, xa xm T D r B (xb V L F R S P), M, q)) oo
        cases hM
        cases hx
        exact am_ev.kf 2 (fun _ _ => rfl)
      · skip
        rcases am_if hM with ⟨c6, hM⟩ | ⟨c6, hM⟩
        · refine am_ev.kg 3 (pc' := 102) (lv' := [.ref 123, .int x1, .long (((bd_held B) ((bd_side B)).toNatClampNeg) ^^^ (-1 : Int64)), am_ju]) (st' := []) (h' := (zl sn sx, xa xm T D r B (xb V L F R S P), M, q)) (fun call kk => (show am_kw call k_Mover_targets 3 kk _ _ _ _ = cond (decide ((((bd_men B) (x1).toNatClampNeg) &&& (7 : Int32)) = (1 : Int32))) (kk 64 [.ref 123, .int x1, .long (((bd_held B) ((bd_side B)).toNatClampNeg) ^^^ (-1 : Int64)), am_ju] [] (zl sn sx, xa xm T D r B (xb V L F R S P), M, q)) (cond (decide ((((bd_men B) (x1).toNatClampNeg) &&& (7 : Int32)) = (2 : Int32))) (kk 70 [.ref 123, .int x1, .long (((bd_held B) ((bd_side B)).toNatClampNeg) ^^^ (-1 : Int64)), am_ju] [] (zl sn sx, xa xm T D r B (xb V L F R S P), M, q)) (cond (decide ((((bd_men B) (x1).toNatClampNeg) &&& (7 : Int32)) = (3 : Int32))) (kk 86 [.ref 123, .int x1, .long (((bd_held B) ((bd_side B)).toNatClampNeg) ^^^ (-1 : Int64)), am_ju] [] (zl sn sx, xa xm T D r B (xb V L F R S P), M, q)) (cond (decide ((((bd_men B) (x1).toNatClampNeg) &&& (7 : Int32)) = (4 : Int32))) (kk 102 [.ref 123, .int x1, .long (((bd_held B) ((bd_side B)).toNatClampNeg) ^^^ (-1 : Int64)), am_ju] [] (zl sn sx, xa xm T D r B (xb V L F R S P), M, q)) (cond (decide ((((bd_men B) (x1).toNatClampNeg) &&& (7 : Int32)) = (5 : Int32))) (kk 117 [.ref 123, .int x1, .long (((bd_held B) ((bd_side B)).toNatClampNeg) ^^^ (-1 : Int64)), am_ju] [] (zl sn sx, xa xm T D r B (xb V L F R S P), M, q)) (kk 133 [.ref 123, .int x1, .long (((bd_held B) ((bd_side B)).toNatClampNeg) ^^^ (-1 : Int64)), am_ju] [] (zl sn sx, xa xm T D r B (xb V L F R S P), M, q)))))) from rfl).trans (by rw [decide_eq_false c3, decide_eq_false c4, decide_eq_false c5, decide_eq_true c6]; rfl)) ?_
          obtain ⟨rr, hc, hM⟩ := am_bind hM
          obtain ⟨r4, rfl⟩ : ∃ z, z = rr := ⟨_, rfl⟩
          refine am_ev.kg 7 (pc' := 112) (lv' := [.ref 123, .int x1, .long (((bd_held B) ((bd_side B)).toNatClampNeg) ^^^ (-1 : Int64)), am_ju]) (st' := [.int (7 : Int32), .int (4 : Int32), .int (0 : Int32), .int x1, .ref 114, .long (((bd_held B) ((bd_side B)).toNatClampNeg) ^^^ (-1 : Int64))]) (h' := (zl sn sx, xa xm T D r B (xb V L F R S P), M, q)) (fun _ _ => rfl) ?_
          refine am_ev.call rfl rfl rfl ((s_Board_seen_B hc).mono (by decide)) ?_
          show am_ev _ k_Mover_targets (115, [.ref 123, .int x1, .long (((bd_held B) ((bd_side B)).toNatClampNeg) ^^^ (-1 : Int64)), am_ju], [.long r4, .long (((bd_held B) ((bd_side B)).toNatClampNeg) ^^^ (-1 : Int64))], (zl sn sx, xa xm T D r B (xb V L F R S P), M, q)) oo
          cases hM
          cases hx
          exact am_ev.kf 2 (fun _ _ => rfl)
        · skip
          rcases am_if hM with ⟨c7, hM⟩ | ⟨c7, hM⟩
          · refine am_ev.kg 3 (pc' := 117) (lv' := [.ref 123, .int x1, .long (((bd_held B) ((bd_side B)).toNatClampNeg) ^^^ (-1 : Int64)), am_ju]) (st' := []) (h' := (zl sn sx, xa xm T D r B (xb V L F R S P), M, q)) (fun call kk => (show am_kw call k_Mover_targets 3 kk _ _ _ _ = cond (decide ((((bd_men B) (x1).toNatClampNeg) &&& (7 : Int32)) = (1 : Int32))) (kk 64 [.ref 123, .int x1, .long (((bd_held B) ((bd_side B)).toNatClampNeg) ^^^ (-1 : Int64)), am_ju] [] (zl sn sx, xa xm T D r B (xb V L F R S P), M, q)) (cond (decide ((((bd_men B) (x1).toNatClampNeg) &&& (7 : Int32)) = (2 : Int32))) (kk 70 [.ref 123, .int x1, .long (((bd_held B) ((bd_side B)).toNatClampNeg) ^^^ (-1 : Int64)), am_ju] [] (zl sn sx, xa xm T D r B (xb V L F R S P), M, q)) (cond (decide ((((bd_men B) (x1).toNatClampNeg) &&& (7 : Int32)) = (3 : Int32))) (kk 86 [.ref 123, .int x1, .long (((bd_held B) ((bd_side B)).toNatClampNeg) ^^^ (-1 : Int64)), am_ju] [] (zl sn sx, xa xm T D r B (xb V L F R S P), M, q)) (cond (decide ((((bd_men B) (x1).toNatClampNeg) &&& (7 : Int32)) = (4 : Int32))) (kk 102 [.ref 123, .int x1, .long (((bd_held B) ((bd_side B)).toNatClampNeg) ^^^ (-1 : Int64)), am_ju] [] (zl sn sx, xa xm T D r B (xb V L F R S P), M, q)) (cond (decide ((((bd_men B) (x1).toNatClampNeg) &&& (7 : Int32)) = (5 : Int32))) (kk 117 [.ref 123, .int x1, .long (((bd_held B) ((bd_side B)).toNatClampNeg) ^^^ (-1 : Int64)), am_ju] [] (zl sn sx, xa xm T D r B (xb V L F R S P), M, q)) (kk 133 [.ref 123, .int x1, .long (((bd_held B) ((bd_side B)).toNatClampNeg) ^^^ (-1 : Int64)), am_ju] [] (zl sn sx, xa xm T D r B (xb V L F R S P), M, q)))))) from rfl).trans (by rw [decide_eq_false c3, decide_eq_false c4, decide_eq_false c5, decide_eq_false c6, decide_eq_true c7]; rfl)) ?_
            obtain ⟨rr, hc, hM⟩ := am_bind hM
            obtain ⟨r5, rfl⟩ : ∃ z, z = rr := ⟨_, rfl⟩
            refine am_ev.kg 7 (pc' := 128) (lv' := [.ref 123, .int x1, .long (((bd_held B) ((bd_side B)).toNatClampNeg) ^^^ (-1 : Int64)), am_ju]) (st' := [.int (7 : Int32), .int (8 : Int32), .int (0 : Int32), .int x1, .ref 114, .long (((bd_held B) ((bd_side B)).toNatClampNeg) ^^^ (-1 : Int64))]) (h' := (zl sn sx, xa xm T D r B (xb V L F R S P), M, q)) (fun _ _ => rfl) ?_
            refine am_ev.call rfl rfl rfl ((s_Board_seen_B hc).mono (by decide)) ?_
            show am_ev _ k_Mover_targets (131, [.ref 123, .int x1, .long (((bd_held B) ((bd_side B)).toNatClampNeg) ^^^ (-1 : Int64)), am_ju], [.long r5, .long (((bd_held B) ((bd_side B)).toNatClampNeg) ^^^ (-1 : Int64))], (zl sn sx, xa xm T D r B (xb V L F R S P), M, q)) oo
            cases hM
            cases hx
            exact am_ev.kf 2 (fun _ _ => rfl)
          · skip
            refine am_ev.kg 3 (pc' := 133) (lv' := [.ref 123, .int x1, .long (((bd_held B) ((bd_side B)).toNatClampNeg) ^^^ (-1 : Int64)), am_ju]) (st' := []) (h' := (zl sn sx, xa xm T D r B (xb V L F R S P), M, q)) (fun call kk => (show am_kw call k_Mover_targets 3 kk _ _ _ _ = cond (decide ((((bd_men B) (x1).toNatClampNeg) &&& (7 : Int32)) = (1 : Int32))) (kk 64 [.ref 123, .int x1, .long (((bd_held B) ((bd_side B)).toNatClampNeg) ^^^ (-1 : Int64)), am_ju] [] (zl sn sx, xa xm T D r B (xb V L F R S P), M, q)) (cond (decide ((((bd_men B) (x1).toNatClampNeg) &&& (7 : Int32)) = (2 : Int32))) (kk 70 [.ref 123, .int x1, .long (((bd_held B) ((bd_side B)).toNatClampNeg) ^^^ (-1 : Int64)), am_ju] [] (zl sn sx, xa xm T D r B (xb V L F R S P), M, q)) (cond (decide ((((bd_men B) (x1).toNatClampNeg) &&& (7 : Int32)) = (3 : Int32))) (kk 86 [.ref 123, .int x1, .long (((bd_held B) ((bd_side B)).toNatClampNeg) ^^^ (-1 : Int64)), am_ju] [] (zl sn sx, xa xm T D r B (xb V L F R S P), M, q)) (cond (decide ((((bd_men B) (x1).toNatClampNeg) &&& (7 : Int32)) = (4 : Int32))) (kk 102 [.ref 123, .int x1, .long (((bd_held B) ((bd_side B)).toNatClampNeg) ^^^ (-1 : Int64)), am_ju] [] (zl sn sx, xa xm T D r B (xb V L F R S P), M, q)) (cond (decide ((((bd_men B) (x1).toNatClampNeg) &&& (7 : Int32)) = (5 : Int32))) (kk 117 [.ref 123, .int x1, .long (((bd_held B) ((bd_side B)).toNatClampNeg) ^^^ (-1 : Int64)), am_ju] [] (zl sn sx, xa xm T D r B (xb V L F R S P), M, q)) (kk 133 [.ref 123, .int x1, .long (((bd_held B) ((bd_side B)).toNatClampNeg) ^^^ (-1 : Int64)), am_ju] [] (zl sn sx, xa xm T D r B (xb V L F R S P), M, q)))))) from rfl).trans (by rw [decide_eq_false c3, decide_eq_false c4, decide_eq_false c5, decide_eq_false c6, decide_eq_false c7]; rfl)) ?_
            obtain ⟨rr, hc, hM⟩ := am_bind hM
            obtain ⟨r6, rfl⟩ : ∃ z, z = rr := ⟨_, rfl⟩
            refine am_ev.kg 7 (pc' := 143) (lv' := [.ref 123, .int x1, .long (((bd_held B) ((bd_side B)).toNatClampNeg) ^^^ (-1 : Int64)), am_ju]) (st' := [.int (1 : Int32), .int (8 : Int32), .int (0 : Int32), .int x1, .ref 114, .long (((bd_held B) ((bd_side B)).toNatClampNeg) ^^^ (-1 : Int64))]) (h' := (zl sn sx, xa xm T D r B (xb V L F R S P), M, q)) (fun _ _ => rfl) ?_
            refine am_ev.call rfl rfl rfl ((s_Board_seen_B hc).mono (by decide)) ?_
            show am_ev _ k_Mover_targets (146, [.ref 123, .int x1, .long (((bd_held B) ((bd_side B)).toNatClampNeg) ^^^ (-1 : Int64)), am_ju], [.long r6, .long (((bd_held B) ((bd_side B)).toNatClampNeg) ^^^ (-1 : Int64))], (zl sn sx, xa xm T D r B (xb V L F R S P), M, q)) oo
            obtain ⟨rr, hc, hM⟩ := am_bind hM
            obtain ⟨r7, rfl⟩ : ∃ z, z = rr := ⟨_, rfl⟩
            refine am_ev.kg 3 (pc' := 149) (lv' := [.ref 123, .int x1, .long (((bd_held B) ((bd_side B)).toNatClampNeg) ^^^ (-1 : Int64)), am_ju]) (st' := [.int x1, .ref 123, .long ((((bd_held B) ((bd_side B)).toNatClampNeg) ^^^ (-1 : Int64)) &&& r6)]) (h' := (zl sn sx, xa xm T D r B (xb V L F R S P), M, q)) (fun _ _ => rfl) ?_
            refine am_ev.call rfl rfl rfl ((s_Mover_castlingTargets hc).mono (by decide)) ?_
            show am_ev _ k_Mover_targets (152, [.ref 123, .int x1, .long (((bd_held B) ((bd_side B)).toNatClampNeg) ^^^ (-1 : Int64)), am_ju], [.long r7, .long ((((bd_held B) ((bd_side B)).toNatClampNeg) ^^^ (-1 : Int64)) &&& r6)], (zl sn sx, xa xm T D r B (xb V L F R S P), M, q)) oo
            cases hM
            cases hx
            exact am_ev.kf 2 (fun _ _ => rfl)
theorem s_Mover_targets {fu : Nat} {sn : Nat} {sx : Nat → Int32} {M : List am_C} {q : Nat × Nat} {T : TxT} {D : BdT} {r : RdT} {B : BdT} {V : MvT} {L : RwT} {F : RwT} {R : Nat → RwT} {S : SoT} {P : HeT} {x1 : Int32} {ov : Int64} (hM : f_Mover_targets fu x1 B = some ov) : am_cv 4 k_Mover_targets [.ref 123, .int x1] (zl sn sx, xa xm T D r B (xb V L F R S P), M, q) (.inl (some (.long ov)), (zl sn sx, xa xm T D r B (xb V L F R S P), M, q)) := am_cv.of rfl (se_Mover_targets (e := ov) (show y_Mover_targets sn sx M q T D r B V L F R S P _ ov from rfl) hM)
def y_Mover_fill_L (sn : Nat) (sx : Nat → Int32) (M : List am_C) (q : Nat × Nat) (T : TxT) (D : BdT) (r : RdT) (B : BdT) (V : MvT) (F : RwT) (R : Nat → RwT) (S : SoT) (P : HeT) (oo : am_O) : RwT → Prop
  | ow => oo = (.inl none, (zl sn sx, xa xm T D r B (xb V ow F R S P), M, q))
def x_Mover_fill_L_24 (sn : Nat) (sx : Nat → Int32) (M : List am_C) (q : Nat × Nat) (T : TxT) (D : BdT) (r : RdT) (B : BdT) (V : MvT) (F : RwT) (R : Nat → RwT) (S : SoT) (P : HeT) (oo : am_O) : RwT → Prop
  | ow => oo = (.inl none, (zl sn sx, xa xm T D r B (xb V ow F R S P), M, q))
theorem sj_Mover_fill_L_77 {fu : Nat} {sn : Nat} {sx : Nat → Int32} {M : List am_C} {q : Nat × Nat} {T : TxT} {D : BdT} {r : RdT} {B : BdT} {V : MvT} {F : RwT} {R : Nat → RwT} {S : SoT} {P : HeT} {w : RwT} {l2 : Int64} {x4 : Int32} {s1 : Int32} {t2 : Int64} {s3 : Int32} {oo : am_O} {e : RwT} {gg : Int64 → Int32 → RwT → Option (RwT)} (hx : x_Mover_fill_L_24 sn sx M q T D r B V F R S P oo e) (hg : ∀ (l2 : Int64) (x4 : Int32) (w : RwT), gg l2 x4 w = some e → am_ev 4 k_Mover_fill (24, [.ref 123, .ref 125, .long l2, am_ju, .int x4, am_ju], [], (zl sn sx, xa xm T D r B (xb V w F R S P), M, q)) oo) (hM : j_Mover_fill_77 fu gg w B l2 x4 s1 t2 s3 = some e) : am_ev 4 k_Mover_fill (77, [.ref 123, .ref 125, .long l2, am_ju, .int x4, am_ju], [.int s3, .long t2, .int s1, .ref 125], (zl sn sx, xa xm T D r B (xb V w F R S P), M, q)) oo := by
  unfold j_Mover_fill_77 at hM
  obtain ⟨rr, hc, hM⟩ := am_bind hM
  obtain ⟨wg3, rfl⟩ : ∃ z, z = rr := ⟨_, rfl⟩
  refine am_ev.call rfl rfl rfl ((s_MoveRow_addAll_L hc).mono (by decide)) ?_
  show am_ev _ k_Mover_fill (80, [.ref 123, .ref 125, .long l2, am_ju, .int x4, am_ju], [], (zl sn sx, xa xm T D r B (xb V wg3 F R S P), M, q)) oo
  refine am_ev.kg 2 (pc' := 24) (lv' := [.ref 123, .ref 125, .long l2, am_ju, .int (x4 + (1 : Int32)), am_ju]) (st' := []) (h' := (zl sn sx, xa xm T D r B (xb V wg3 F R S P), M, q)) (fun _ _ => rfl) ?_
  exact hg _ _ _ hM
theorem sb_Mover_fill_L_24 {fu : Nat} {sn : Nat} {sx : Nat → Int32} {M : List am_C} {q : Nat × Nat} {T : TxT} {D : BdT} {r : RdT} {B : BdT} {V : MvT} {F : RwT} {R : Nat → RwT} {S : SoT} {P : HeT} {oo : am_O} {e : RwT} {gg : Int64 → Int32 → RwT → Option (RwT)} (hx : x_Mover_fill_L_24 sn sx M q T D r B V F R S P oo e) (hg : ∀ (l2 : Int64) (x4 : Int32) (w : RwT), gg l2 x4 w = some e → am_ev 4 k_Mover_fill (24, [.ref 123, .ref 125, .long l2, am_ju, .int x4, am_ju], [], (zl sn sx, xa xm T D r B (xb V w F R S P), M, q)) oo) {l2 : Int64} {x4 : Int32} {w : RwT} (hM : b_Mover_fill_24 fu B gg l2 x4 w = some e) : am_ev 4 k_Mover_fill (24, [.ref 123, .ref 125, .long l2, am_ju, .int x4, am_ju], [], (zl sn sx, xa xm T D r B (xb V w F R S P), M, q)) oo := by
  unfold b_Mover_fill_24 at hM
  rcases am_if hM with ⟨c1, hM⟩ | ⟨c1, hM⟩
  · refine am_ev.kt 3 86 31 [.ref 123, .ref 125, .long l2, am_ju, .int x4, am_ju] [] (zl sn sx, xa xm T D r B (xb V w F R S P), M, q) c1 (fun _ _ => rfl) ?_
    cases hM
    cases hx
    exact am_ev.kf 1 (fun _ _ => rfl)
  · refine am_ev.ke 3 86 31 [.ref 123, .ref 125, .long l2, am_ju, .int x4, am_ju] [] (zl sn sx, xa xm T D r B (xb V w F R S P), M, q) c1 (fun _ _ => rfl) ?_
    rcases am_if hM with ⟨c2, hM⟩ | ⟨c2, hM⟩
    · refine am_ev.kt 4 86 37 [.ref 123, .ref 125, .long l2, am_ju, .int x4, am_ju] [] (zl sn sx, xa xm T D r B (xb V w F R S P), M, q) c2 (fun _ _ => rfl) ?_
      cases hM
      cases hx
      exact am_ev.kf 1 (fun _ _ => rfl)
    · refine am_ev.ke 4 86 37 [.ref 123, .ref 125, .long l2, am_ju, .int x4, am_ju] [] (zl sn sx, xa xm T D r B (xb V w F R S P), M, q) c2 (fun _ _ => rfl) ?_
      obtain ⟨rr, hc, hM⟩ := am_bind hM
      obtain ⟨r1, rfl⟩ : ∃ z, z = rr := ⟨_, rfl⟩
      refine am_ev.kg 1 (pc' := 38) (lv' := [.ref 123, .ref 125, .long l2, am_ju, .int x4, am_ju]) (st' := [.long l2]) (h' := (zl sn sx, xa xm T D r B (xb V w F R S P), M, q)) (fun _ _ => rfl) ?_
      refine am_ev.call rfl rfl rfl ((s_Mover_lowest hc).mono (by decide)) ?_
      show am_ev _ k_Mover_fill (41, [.ref 123, .ref 125, .long l2, am_ju, .int x4, am_ju], [.int r1], (zl sn sx, xa xm T D r B (xb V w F R S P), M, q)) oo
      obtain ⟨rr, hc, hM⟩ := am_bind hM
      obtain ⟨r2, rfl⟩ : ∃ z, z = rr := ⟨_, rfl⟩
      refine am_ev.kg 11 (pc' := 55) (lv' := [.ref 123, .ref 125, .long (l2 &&& (l2 - (1 : Int64))), am_ju, .int x4, .int r1]) (st' := [.int r1, .ref 123, .int r1, .ref 125]) (h' := (zl sn sx, xa xm T D r B (xb V w F R S P), M, q)) (fun _ _ => rfl) ?_
      refine am_ev.call rfl rfl rfl ((s_Mover_targets hc).mono (by decide)) ?_
      show am_ev _ k_Mover_fill (58, [.ref 123, .ref 125, .long (l2 &&& (l2 - (1 : Int64))), am_ju, .int x4, .int r1], [.long r2, .int r1, .ref 125], (zl sn sx, xa xm T D r B (xb V w F R S P), M, q)) oo
      obtain ⟨c3, hM⟩ := am_ifn hM
      refine am_ev.kc 4 65 [.ref 123, .ref 125, .long (l2 &&& (l2 - (1 : Int64))), am_ju, .int x4, .int r1] [.int ((bd_men B) (r1).toNatClampNeg), .long r2, .int r1, .ref 125] (zl sn sx, xa xm T D r B (xb V w F R S P), M, q) c3 (fun _ _ => rfl) ?_
      rcases am_if hM with ⟨c4, hM⟩ | ⟨c4, hM⟩
      · refine am_ev.kt 4 76 72 [.ref 123, .ref 125, .long (l2 &&& (l2 - (1 : Int64))), am_ju, .int x4, .int r1] [.long r2, .int r1, .ref 125] (zl sn sx, xa xm T D r B (xb V w F R S P), M, q) c4 (fun _ _ => rfl) ?_
        refine am_ev.kg 1 (pc' := 77) (lv' := [.ref 123, .ref 125, .long (l2 &&& (l2 - (1 : Int64))), am_ju, .int x4, .int r1]) (st' := [.int (0 : Int32), .long r2, .int r1, .ref 125]) (h' := (zl sn sx, xa xm T D r B (xb V w F R S P), M, q)) (fun _ _ => rfl) ?_
        refine am_ev.wk (lv' := [.ref 123, .ref 125, .long (l2 &&& (l2 - (1 : Int64))), am_ju, .int x4, am_ju]) (am_lc (Or.inr rfl) (am_lc (Or.inr rfl) (am_lc (Or.inr rfl) (am_lc (Or.inr rfl) (am_lc (Or.inr rfl) (am_lc (Or.inl rfl) am_ln)))))) ?_
        exact sj_Mover_fill_L_77 hx hg hM
      · refine am_ev.ke 4 76 72 [.ref 123, .ref 125, .long (l2 &&& (l2 - (1 : Int64))), am_ju, .int x4, .int r1] [.long r2, .int r1, .ref 125] (zl sn sx, xa xm T D r B (xb V w F R S P), M, q) c4 (fun _ _ => rfl) ?_
        refine am_ev.kg 2 (pc' := 77) (lv' := [.ref 123, .ref 125, .long (l2 &&& (l2 - (1 : Int64))), am_ju, .int x4, .int r1]) (st' := [.int (1 : Int32), .long r2, .int r1, .ref 125]) (h' := (zl sn sx, xa xm T D r B (xb V w F R S P), M, q)) (fun _ _ => rfl) ?_
        refine am_ev.wk (lv' := [.ref 123, .ref 125, .long (l2 &&& (l2 - (1 : Int64))), am_ju, .int x4, am_ju]) (am_lc (Or.inr rfl) (am_lc (Or.inr rfl) (am_lc (Or.inr rfl) (am_lc (Or.inr rfl) (am_lc (Or.inr rfl) (am_lc (Or.inl rfl) am_ln)))))) ?_
        exact sj_Mover_fill_L_77 hx hg hM
theorem sl_Mover_fill_L_24 {fu : Nat} {sn : Nat} {sx : Nat → Int32} {M : List am_C} {q : Nat × Nat} {T : TxT} {D : BdT} {r : RdT} {B : BdT} {V : MvT} {F : RwT} {R : Nat → RwT} {S : SoT} {P : HeT} {oo : am_O} {e : RwT} (hx : x_Mover_fill_L_24 sn sx M q T D r B V F R S P oo e) : ∀ (n : Nat) (l2 : Int64) (x4 : Int32) (w : RwT), l_Mover_fill_24 fu B n l2 x4 w = some e → am_ev 4 k_Mover_fill (24, [.ref 123, .ref 125, .long l2, am_ju, .int x4, am_ju], [], (zl sn sx, xa xm T D r B (xb V w F R S P), M, q)) oo
  | 0, _, _, _, hM => by have h : (none : Option (RwT)) = some e := hM; cases h
  | n + 1, _, _, _, hM => sb_Mover_fill_L_24 hx (fun _ _ _ hM => sl_Mover_fill_L_24 hx n _ _ _ hM) hM
theorem se_Mover_fill_L {fu : Nat} {sn : Nat} {sx : Nat → Int32} {M : List am_C} {q : Nat × Nat} {T : TxT} {D : BdT} {r : RdT} {B : BdT} {V : MvT} {F : RwT} {R : Nat → RwT} {S : SoT} {P : HeT} {w : RwT} {oo : am_O} {e : RwT} (hx : y_Mover_fill_L sn sx M q T D r B V F R S P oo e) (hM : f_Mover_fill fu w B = some e) : am_ev 4 k_Mover_fill (0, [.ref 123, .ref 125, am_ju, am_ju, am_ju, am_ju], [], (zl sn sx, xa xm T D r B (xb V w F R S P), M, q)) oo := by
  unfold f_Mover_fill at hM
  obtain ⟨c5, hM⟩ := am_ifn hM
  refine am_ev.kc 10 20 [.ref 123, .ref 125, am_ju, am_ju, am_ju, am_ju] [.long ((bd_held B) ((bd_side B)).toNatClampNeg)] (zl sn sx, xa xm T D r B (xb V ((rw_told w), (0 : Int32)) F R S P), M, q) c5 (fun _ _ => rfl) ?_
  refine am_ev.kg 3 (pc' := 24) (lv' := [.ref 123, .ref 125, .long ((bd_held B) ((bd_side B)).toNatClampNeg), am_ju, .int (0 : Int32), am_ju]) (st' := []) (h' := (zl sn sx, xa xm T D r B (xb V ((rw_told w), (0 : Int32)) F R S P), M, q)) (fun _ _ => rfl) ?_
  refine sl_Mover_fill_L_24 ?_ _ _ _ _ hM
  exact hx
theorem s_Mover_fill_L {fu : Nat} {sn : Nat} {sx : Nat → Int32} {M : List am_C} {q : Nat × Nat} {T : TxT} {D : BdT} {r : RdT} {B : BdT} {V : MvT} {F : RwT} {R : Nat → RwT} {S : SoT} {P : HeT} {w : RwT} {ow : RwT} (hM : f_Mover_fill fu w B = some ow) : am_cv 5 k_Mover_fill [.ref 123, .ref 125] (zl sn sx, xa xm T D r B (xb V w F R S P), M, q) (.inl none, (zl sn sx, xa xm T D r B (xb V ow F R S P), M, q)) := am_cv.of rfl (se_Mover_fill_L (e := ow) (show y_Mover_fill_L sn sx M q T D r B V F R S P _ ow from rfl) hM)
def y_Mover_fillLegal_L (sn : Nat) (sx : Nat → Int32) (M : List am_C) (q : Nat × Nat) (T : TxT) (D : BdT) (r : RdT) (V : MvT) (F : RwT) (R : Nat → RwT) (S : SoT) (P : HeT) (oo : am_O) : RwT × BdT → Prop
  | (ow, oB) => oo = (.inl none, (zl sn sx, xa xm T D r oB (xb V ow F R S P), M, q))
def x_Mover_fillLegal_L_9 (sn : Nat) (sx : Nat → Int32) (M : List am_C) (q : Nat × Nat) (T : TxT) (D : BdT) (r : RdT) (V : MvT) (F : RwT) (R : Nat → RwT) (S : SoT) (P : HeT) (oo : am_O) : RwT × BdT → Prop
  | (ow, oB) => oo = (.inl none, (zl sn sx, xa xm T D r oB (xb V ow F R S P), M, q))
theorem sj_Mover_fillLegal_L_55 {fu : Nat} {sn : Nat} {sx : Nat → Int32} {M : List am_C} {q : Nat × Nat} {T : TxT} {D : BdT} {r : RdT} {B : BdT} {V : MvT} {F : RwT} {R : Nat → RwT} {S : SoT} {P : HeT} {w : RwT} {x2 : Int32} {x3 : Int32} {oo : am_O} {e : RwT × BdT} {gg : Int32 → Int32 → RwT → BdT → Option (RwT × BdT)} (hx : x_Mover_fillLegal_L_9 sn sx M q T D r V F R S P oo e) (hg : ∀ (x2 : Int32) (x3 : Int32) (w : RwT) (B : BdT), gg x2 x3 w B = some e → am_ev 5 k_Mover_fillLegal (9, [.ref 123, .ref 125, .int x2, .int x3], [], (zl sn sx, xa xm T D r B (xb V w F R S P), M, q)) oo) (hM : j_Mover_fillLegal_55 fu gg w B x2 x3 = some e) : am_ev 5 k_Mover_fillLegal (55, [.ref 123, .ref 125, .int x2, .int x3], [], (zl sn sx, xa xm T D r B (xb V w F R S P), M, q)) oo := by
  unfold j_Mover_fillLegal_55 at hM
  obtain ⟨rr, hc, hM⟩ := am_bind hM
  obtain ⟨bg4, rfl⟩ : ∃ z, z = rr := ⟨_, rfl⟩
  refine am_ev.kg 2 (pc' := 59) (lv' := [.ref 123, .ref 125, .int x2, .int x3]) (st' := [.ref 114]) (h' := (zl sn sx, xa xm T D r B (xb V w F R S P), M, q)) (fun _ _ => rfl) ?_
  refine am_ev.call rfl rfl rfl ((s_Board_unmake_B hc).mono (by decide)) ?_
  show am_ev _ k_Mover_fillLegal (62, [.ref 123, .ref 125, .int x2, .int x3], [], (zl sn sx, xa xm T D r bg4 (xb V w F R S P), M, q)) oo
  refine am_ev.kg 2 (pc' := 9) (lv' := [.ref 123, .ref 125, .int x2, .int (x3 + (1 : Int32))]) (st' := []) (h' := (zl sn sx, xa xm T D r bg4 (xb V w F R S P), M, q)) (fun _ _ => rfl) ?_
  exact hg _ _ _ _ hM
theorem sb_Mover_fillLegal_L_9 {fu : Nat} {sn : Nat} {sx : Nat → Int32} {M : List am_C} {q : Nat × Nat} {T : TxT} {D : BdT} {r : RdT} {V : MvT} {F : RwT} {R : Nat → RwT} {S : SoT} {P : HeT} {oo : am_O} {e : RwT × BdT} {gg : Int32 → Int32 → RwT → BdT → Option (RwT × BdT)} (hx : x_Mover_fillLegal_L_9 sn sx M q T D r V F R S P oo e) (hg : ∀ (x2 : Int32) (x3 : Int32) (w : RwT) (B : BdT), gg x2 x3 w B = some e → am_ev 5 k_Mover_fillLegal (9, [.ref 123, .ref 125, .int x2, .int x3], [], (zl sn sx, xa xm T D r B (xb V w F R S P), M, q)) oo) {x2 : Int32} {x3 : Int32} {w : RwT} {B : BdT} (hM : b_Mover_fillLegal_9 fu gg x2 x3 w B = some e) : am_ev 5 k_Mover_fillLegal (9, [.ref 123, .ref 125, .int x2, .int x3], [], (zl sn sx, xa xm T D r B (xb V w F R S P), M, q)) oo := by
  unfold b_Mover_fillLegal_9 at hM
  rcases am_if hM with ⟨c1, hM⟩ | ⟨c1, hM⟩
  · refine am_ev.kt 4 68 17 [.ref 123, .ref 125, .int x2, .int x3] [] (zl sn sx, xa xm T D r B (xb V w F R S P), M, q) c1 (fun _ _ => rfl) ?_
    cases hM
    cases hx
    exact am_ev.kf 4 (fun _ _ => rfl)
  · refine am_ev.ke 4 68 17 [.ref 123, .ref 125, .int x2, .int x3] [] (zl sn sx, xa xm T D r B (xb V w F R S P), M, q) c1 (fun _ _ => rfl) ?_
    obtain ⟨c2, hM⟩ := am_ifn hM
    refine am_ev.kc 6 27 [.ref 123, .ref 125, .int x2, .int x3] [.int ((rw_told w) (x3).toNatClampNeg), .ref 114] (zl sn sx, xa xm T D r B (xb V w F R S P), M, q) c2 (fun _ _ => rfl) ?_
    obtain ⟨rr, hc, hM⟩ := am_bind hM
    obtain ⟨bg2, rfl⟩ : ∃ z, z = rr := ⟨_, rfl⟩
    refine am_ev.call rfl rfl rfl ((s_Board_make_B hc).mono (by decide)) ?_
    show am_ev _ k_Mover_fillLegal (30, [.ref 123, .ref 125, .int x2, .int x3], [], (zl sn sx, xa xm T D r bg2 (xb V w F R S P), M, q)) oo
    obtain ⟨rr, hc, hM⟩ := am_bind hM
    obtain ⟨r3, rfl⟩ : ∃ z, z = rr := ⟨_, rfl⟩
    refine am_ev.kg 2 (pc' := 34) (lv' := [.ref 123, .ref 125, .int x2, .int x3]) (st' := [.ref 114]) (h' := (zl sn sx, xa xm T D r bg2 (xb V w F R S P), M, q)) (fun _ _ => rfl) ?_
    refine am_ev.call rfl rfl rfl ((s_Board_isLegal_B hc).mono (by decide)) ?_
    show am_ev _ k_Mover_fillLegal (37, [.ref 123, .ref 125, .int x2, .int x3], [.int r3], (zl sn sx, xa xm T D r bg2 (xb V w F R S P), M, q)) oo
    rcases am_if hM with ⟨c3, hM⟩ | ⟨c3, hM⟩
    · refine am_ev.kt 1 55 40 [.ref 123, .ref 125, .int x2, .int x3] [] (zl sn sx, xa xm T D r bg2 (xb V w F R S P), M, q) c3 (fun _ _ => rfl) ?_
      exact sj_Mover_fillLegal_L_55 hx hg hM
    · refine am_ev.ke 1 55 40 [.ref 123, .ref 125, .int x2, .int x3] [] (zl sn sx, xa xm T D r bg2 (xb V w F R S P), M, q) c3 (fun _ _ => rfl) ?_
      obtain ⟨c4, hM⟩ := am_ifn hM
      refine am_ev.kc 7 51 [.ref 123, .ref 125, .int x2, .int x3] [.int ((rw_told w) (x3).toNatClampNeg), .int x2, .ref 126] (zl sn sx, xa xm T D r bg2 (xb V w F R S P), M, q) c4 (fun _ _ => rfl) ?_
      obtain ⟨c5, hM⟩ := am_ifn hM
      refine am_ev.kc 1 52 [.ref 123, .ref 125, .int x2, .int x3] [] (zl sn sx, xa xm T D r bg2 (xb V ((upd (rw_told w) (x2).toNatClampNeg ((rw_told w) (x3).toNatClampNeg)), (rw_count w)) F R S P), M, q) c5 (fun _ _ => rfl) ?_
      refine am_ev.kg 1 (pc' := 55) (lv' := [.ref 123, .ref 125, .int (x2 + (1 : Int32)), .int x3]) (st' := []) (h' := (zl sn sx, xa xm T D r bg2 (xb V ((upd (rw_told w) (x2).toNatClampNeg ((rw_told w) (x3).toNatClampNeg)), (rw_count w)) F R S P), M, q)) (fun _ _ => rfl) ?_
      exact sj_Mover_fillLegal_L_55 hx hg hM
theorem sl_Mover_fillLegal_L_9 {fu : Nat} {sn : Nat} {sx : Nat → Int32} {M : List am_C} {q : Nat × Nat} {T : TxT} {D : BdT} {r : RdT} {V : MvT} {F : RwT} {R : Nat → RwT} {S : SoT} {P : HeT} {oo : am_O} {e : RwT × BdT} (hx : x_Mover_fillLegal_L_9 sn sx M q T D r V F R S P oo e) : ∀ (n : Nat) (x2 : Int32) (x3 : Int32) (w : RwT) (B : BdT), l_Mover_fillLegal_9 fu n x2 x3 w B = some e → am_ev 5 k_Mover_fillLegal (9, [.ref 123, .ref 125, .int x2, .int x3], [], (zl sn sx, xa xm T D r B (xb V w F R S P), M, q)) oo
  | 0, _, _, _, _, hM => by have h : (none : Option (RwT × BdT)) = some e := hM; cases h
  | n + 1, _, _, _, _, hM => sb_Mover_fillLegal_L_9 hx (fun _ _ _ _ hM => sl_Mover_fillLegal_L_9 hx n _ _ _ _ hM) hM
theorem se_Mover_fillLegal_L {fu : Nat} {sn : Nat} {sx : Nat → Int32} {M : List am_C} {q : Nat × Nat} {T : TxT} {D : BdT} {r : RdT} {B : BdT} {V : MvT} {F : RwT} {R : Nat → RwT} {S : SoT} {P : HeT} {w : RwT} {oo : am_O} {e : RwT × BdT} (hx : y_Mover_fillLegal_L sn sx M q T D r V F R S P oo e) (hM : f_Mover_fillLegal fu w B = some e) : am_ev 5 k_Mover_fillLegal (0, [.ref 123, .ref 125, am_ju, am_ju], [], (zl sn sx, xa xm T D r B (xb V w F R S P), M, q)) oo := by
  unfold f_Mover_fillLegal at hM
  obtain ⟨rr, hc, hM⟩ := am_bind hM
  obtain ⟨wg1, rfl⟩ : ∃ z, z = rr := ⟨_, rfl⟩
  refine am_ev.kg 2 (pc' := 2) (lv' := [.ref 123, .ref 125, am_ju, am_ju]) (st' := [.ref 125, .ref 123]) (h' := (zl sn sx, xa xm T D r B (xb V w F R S P), M, q)) (fun _ _ => rfl) ?_
  refine am_ev.call rfl rfl rfl ((s_Mover_fill_L hc).mono (by decide)) ?_
  show am_ev _ k_Mover_fillLegal (5, [.ref 123, .ref 125, am_ju, am_ju], [], (zl sn sx, xa xm T D r B (xb V wg1 F R S P), M, q)) oo
  refine am_ev.kg 4 (pc' := 9) (lv' := [.ref 123, .ref 125, .int (0 : Int32), .int (0 : Int32)]) (st' := []) (h' := (zl sn sx, xa xm T D r B (xb V wg1 F R S P), M, q)) (fun _ _ => rfl) ?_
  obtain ⟨ow, oB⟩ := e
  refine sl_Mover_fillLegal_L_9 ?_ _ _ _ _ _ hM
  exact hx
theorem s_Mover_fillLegal_L {fu : Nat} {sn : Nat} {sx : Nat → Int32} {M : List am_C} {q : Nat × Nat} {T : TxT} {D : BdT} {r : RdT} {B : BdT} {V : MvT} {F : RwT} {R : Nat → RwT} {S : SoT} {P : HeT} {w : RwT} {ow : RwT} {oB : BdT} (hM : f_Mover_fillLegal fu w B = some (ow, oB)) : am_cv 6 k_Mover_fillLegal [.ref 123, .ref 125] (zl sn sx, xa xm T D r B (xb V w F R S P), M, q) (.inl none, (zl sn sx, xa xm T D r oB (xb V ow F R S P), M, q)) := am_cv.of rfl (se_Mover_fillLegal_L (e := (ow, oB)) (show y_Mover_fillLegal_L sn sx M q T D r V F R S P _ (ow, oB) from rfl) hM)
def y_HelpLines_forget (sn : Nat) (sx : Nat → Int32) (M : List am_C) (q : Nat × Nat) (T : TxT) (D : BdT) (r : RdT) (B : BdT) (V : MvT) (L : RwT) (F : RwT) (R : Nat → RwT) (S : SoT) (oo : am_O) : HeT → Prop
  | oP => oo = (.inl none, (zl sn sx, xa xm T D r B (xb V L F R S oP), M, q))
theorem se_HelpLines_forget {sn : Nat} {sx : Nat → Int32} {M : List am_C} {q : Nat × Nat} {T : TxT} {D : BdT} {r : RdT} {B : BdT} {V : MvT} {L : RwT} {F : RwT} {R : Nat → RwT} {S : SoT} {P : HeT} {oo : am_O} {e : HeT} (hx : y_HelpLines_forget sn sx M q T D r B V L F R S oo e) (hM : f_HelpLines_forget P = some e) : am_ev 1 k_HelpLines_forget (0, [.ref 144], [], (zl sn sx, xa xm T D r B (xb V L F R S P), M, q)) oo := by
  unfold f_HelpLines_forget at hM
  cases hM
  cases hx
  exact am_ev.kf 4 (fun _ _ => rfl)
theorem s_HelpLines_forget {sn : Nat} {sx : Nat → Int32} {M : List am_C} {q : Nat × Nat} {T : TxT} {D : BdT} {r : RdT} {B : BdT} {V : MvT} {L : RwT} {F : RwT} {R : Nat → RwT} {S : SoT} {P : HeT} {oP : HeT} (hM : f_HelpLines_forget P = some oP) : am_cv 2 k_HelpLines_forget [.ref 144] (zl sn sx, xa xm T D r B (xb V L F R S P), M, q) (.inl none, (zl sn sx, xa xm T D r B (xb V L F R S oP), M, q)) := am_cv.of rfl (se_HelpLines_forget (e := oP) (show y_HelpLines_forget sn sx M q T D r B V L F R S _ oP from rfl) hM)
def y_Mp_positionChanged (sn : Nat) (sx : Nat → Int32) (M : List am_C) (q : Nat × Nat) (T : TxT) (D : BdT) (r : RdT) (V : MvT) (R : Nat → RwT) (S : SoT) (oo : am_O) : BdT × RwT × RwT × HeT → Prop
  | (oB, oL, oF, oP) => oo = (.inl none, (zl sn sx, xa xm T D r oB (xb V oL oF R S oP), M, q))
theorem se_Mp_positionChanged {fu : Nat} {sn : Nat} {sx : Nat → Int32} {M : List am_C} {q : Nat × Nat} {T : TxT} {D : BdT} {r : RdT} {B : BdT} {V : MvT} {L : RwT} {F : RwT} {R : Nat → RwT} {S : SoT} {P : HeT} {oo : am_O} {e : BdT × RwT × RwT × HeT} (hx : y_Mp_positionChanged sn sx M q T D r V R S oo e) (hM : f_Mp_positionChanged fu B L F P = some e) : am_ev 6 k_Mp_positionChanged (0, [.ref 100], [], (zl sn sx, xa xm T D r B (xb V L F R S P), M, q)) oo := by
  unfold f_Mp_positionChanged at hM
  obtain ⟨rr, hc, hM⟩ := am_bind hM
  obtain ⟨wg1, bg2⟩ := rr
  refine am_ev.kg 4 (pc' := 8) (lv' := [.ref 100]) (st' := [.ref 125, .ref 123]) (h' := (zl sn sx, xa xm T D r B (xb V L F R S P), M, q)) (fun _ _ => rfl) ?_
  refine am_ev.call rfl rfl rfl ((s_Mover_fillLegal_L hc).mono (by decide)) ?_
  show am_ev _ k_Mp_positionChanged (11, [.ref 100], [], (zl sn sx, xa xm T D r bg2 (xb V wg1 F R S P), M, q)) oo
  obtain ⟨rr, hc, hM⟩ := am_bind hM
  obtain ⟨pg3, rfl⟩ : ∃ z, z = rr := ⟨_, rfl⟩
  refine am_ev.kg 6 (pc' := 23) (lv' := [.ref 100]) (st' := [.ref 144]) (h' := (zl sn sx, xa xm T D r bg2 (xb V wg1 ((rw_told F), (0 : Int32)) R S P), M, q)) (fun _ _ => rfl) ?_
  refine am_ev.call rfl rfl rfl ((s_HelpLines_forget hc).mono (by decide)) ?_
  show am_ev _ k_Mp_positionChanged (26, [.ref 100], [], (zl sn sx, xa xm T D r bg2 (xb V wg1 ((rw_told F), (0 : Int32)) R S pg3), M, q)) oo
  cases hM
  cases hx
  exact am_ev.kf 1 (fun _ _ => rfl)
theorem s_Mp_positionChanged {fu : Nat} {sn : Nat} {sx : Nat → Int32} {M : List am_C} {q : Nat × Nat} {T : TxT} {D : BdT} {r : RdT} {B : BdT} {V : MvT} {L : RwT} {F : RwT} {R : Nat → RwT} {S : SoT} {P : HeT} {oB : BdT} {oL : RwT} {oF : RwT} {oP : HeT} (hM : f_Mp_positionChanged fu B L F P = some (oB, oL, oF, oP)) : am_cv 7 k_Mp_positionChanged [.ref 100] (zl sn sx, xa xm T D r B (xb V L F R S P), M, q) (.inl none, (zl sn sx, xa xm T D r oB (xb V oL oF R S oP), M, q)) := am_cv.of rfl (se_Mp_positionChanged (e := (oB, oL, oF, oP)) (show y_Mp_positionChanged sn sx M q T D r V R S _ (oB, oL, oF, oP) from rfl) hM)
def y_Mp_load (sn : Nat) (sx : Nat → Int32) (M : List am_C) (q : Nat × Nat) (V : MvT) (R : Nat → RwT) (S : SoT) (oo : am_O) : Int32 × TxT × BdT × RdT × BdT × RwT × RwT × HeT → Prop
  | (ov, oT, oD, or, oB, oL, oF, oP) => oo = (.inl (some (.int ov)), (zl sn sx, xa xm oT oD or oB (xb V oL oF R S oP), M, q))
theorem se_Mp_load {fu : Nat} {sn : Nat} {sx : Nat → Int32} {M : List am_C} {q : Nat × Nat} {T : TxT} {D : BdT} {r : RdT} {B : BdT} {V : MvT} {L : RwT} {F : RwT} {R : Nat → RwT} {S : SoT} {P : HeT} {oo : am_O} {e : Int32 × TxT × BdT × RdT × BdT × RwT × RwT × HeT} (hx : y_Mp_load sn sx M q V R S oo e) (hM : f_Mp_load fu T D r B L F P = some e) : am_ev 7 k_Mp_load (0, [.ref 100, am_ju], [], (zl sn sx, xa xm T D r B (xb V L F R S P), M, q)) oo := by
  unfold f_Mp_load at hM
  obtain ⟨rr, hc, hM⟩ := am_bind hM
  obtain ⟨r1, dg2, rg3⟩ := rr
  refine am_ev.kg 2 (pc' := 4) (lv' := [.ref 100, am_ju]) (st' := [.ref 113]) (h' := (zl sn sx, xa xm T D r B (xb V L F R S P), M, q)) (fun _ _ => rfl) ?_
  refine am_ev.call rfl rfl rfl ((s_Reader_read hc).mono (by decide)) ?_
  show am_ev _ k_Mp_load (7, [.ref 100, am_ju], [.int r1], (zl sn sx, xa xm T dg2 rg3 B (xb V L F R S P), M, q)) oo
  rcases am_if hM with ⟨c1, hM⟩ | ⟨c1, hM⟩
  · refine am_ev.kt 3 36 12 [.ref 100, .int r1] [] (zl sn sx, xa xm T dg2 rg3 B (xb V L F R S P), M, q) c1 (fun _ _ => rfl) ?_
    cases hM
    cases hx
    exact am_ev.kf 2 (fun _ _ => rfl)
  · refine am_ev.ke 3 36 12 [.ref 100, .int r1] [] (zl sn sx, xa xm T dg2 rg3 B (xb V L F R S P), M, q) c1 (fun _ _ => rfl) ?_
    obtain ⟨rr, hc, hM⟩ := am_bind hM
    obtain ⟨bg4, rfl⟩ : ∃ z, z = rr := ⟨_, rfl⟩
    refine am_ev.kg 4 (pc' := 20) (lv' := [.ref 100, .int r1]) (st' := [.ref 104, .ref 114]) (h' := (zl sn sx, xa xm T dg2 rg3 B (xb V L F R S P), M, q)) (fun _ _ => rfl) ?_
    refine am_ev.call rfl rfl rfl ((s_Board_copy_BD hc).mono (by decide)) ?_
    show am_ev _ k_Mp_load (23, [.ref 100, .int r1], [], (zl sn sx, xa xm T dg2 rg3 bg4 (xb V L F R S P), M, q)) oo
    obtain ⟨rr, hc, hM⟩ := am_bind hM
    obtain ⟨r5, tg6⟩ := rr
    refine am_ev.kg 3 (pc' := 28) (lv' := [.ref 100, .int r1]) (st' := [.int (0 : Int32), .ref 102]) (h' := (zl sn sx, xa xm T dg2 rg3 bg4 (xb V L F R S P), M, q)) (fun _ _ => rfl) ?_
    refine am_ev.call rfl rfl rfl ((s_Text_shorten hc).mono (by decide)) ?_
    show am_ev _ k_Mp_load (31, [.ref 100, .int r1], [.int r5], (zl sn sx, xa xm tg6 dg2 rg3 bg4 (xb V L F R S P), M, q)) oo
    obtain ⟨rr, hc, hM⟩ := am_bind hM
    obtain ⟨bg7, lg8, fg9, pg10⟩ := rr
    refine am_ev.kg 2 (pc' := 33) (lv' := [.ref 100, .int r1]) (st' := [.ref 100]) (h' := (zl sn sx, xa xm tg6 dg2 rg3 bg4 (xb V L F R S P), M, q)) (fun _ _ => rfl) ?_
    refine am_ev.call rfl rfl rfl ((s_Mp_positionChanged hc).mono (by decide)) ?_
    show am_ev _ k_Mp_load (36, [.ref 100, .int r1], [], (zl sn sx, xa xm tg6 dg2 rg3 bg7 (xb V lg8 fg9 R S pg10), M, q)) oo
    cases hM
    cases hx
    exact am_ev.kf 2 (fun _ _ => rfl)
theorem s_Mp_load {fu : Nat} {sn : Nat} {sx : Nat → Int32} {M : List am_C} {q : Nat × Nat} {T : TxT} {D : BdT} {r : RdT} {B : BdT} {V : MvT} {L : RwT} {F : RwT} {R : Nat → RwT} {S : SoT} {P : HeT} {ov : Int32} {oT : TxT} {oD : BdT} {or : RdT} {oB : BdT} {oL : RwT} {oF : RwT} {oP : HeT} (hM : f_Mp_load fu T D r B L F P = some (ov, oT, oD, or, oB, oL, oF, oP)) : am_cv 8 k_Mp_load [.ref 100] (zl sn sx, xa xm T D r B (xb V L F R S P), M, q) (.inl (some (.int ov)), (zl sn sx, xa xm oT oD or oB (xb V oL oF R S oP), M, q)) := am_cv.of rfl (se_Mp_load (e := (ov, oT, oD, or, oB, oL, oF, oP)) (show y_Mp_load sn sx M q V R S _ (ov, oT, oD, or, oB, oL, oF, oP) from rfl) hM)
def y_Mp_moves (sn : Nat) (sx : Nat → Int32) (M : List am_C) (q : Nat × Nat) (T : TxT) (D : BdT) (r : RdT) (B : BdT) (V : MvT) (L : RwT) (F : RwT) (R : Nat → RwT) (S : SoT) (P : HeT) (oo : am_O) : Int32 → Prop
  | ov => oo = (.inl (some (.int ov)), (zl sn sx, xa xm T D r B (xb V L F R S P), M, q))
theorem se_Mp_moves {sn : Nat} {sx : Nat → Int32} {M : List am_C} {q : Nat × Nat} {T : TxT} {D : BdT} {r : RdT} {B : BdT} {V : MvT} {L : RwT} {F : RwT} {R : Nat → RwT} {S : SoT} {P : HeT} {oo : am_O} {e : Int32} (hx : y_Mp_moves sn sx M q T D r B V L F R S P oo e) (hM : f_Mp_moves L = some e) : am_ev 1 k_Mp_moves (0, [.ref 100], [], (zl sn sx, xa xm T D r B (xb V L F R S P), M, q)) oo := by
  unfold f_Mp_moves at hM
  cases hM
  cases hx
  exact am_ev.kf 4 (fun _ _ => rfl)
theorem s_Mp_moves {sn : Nat} {sx : Nat → Int32} {M : List am_C} {q : Nat × Nat} {T : TxT} {D : BdT} {r : RdT} {B : BdT} {V : MvT} {L : RwT} {F : RwT} {R : Nat → RwT} {S : SoT} {P : HeT} {ov : Int32} (hM : f_Mp_moves L = some ov) : am_cv 2 k_Mp_moves [.ref 100] (zl sn sx, xa xm T D r B (xb V L F R S P), M, q) (.inl (some (.int ov)), (zl sn sx, xa xm T D r B (xb V L F R S P), M, q)) := am_cv.of rfl (se_Mp_moves (e := ov) (show y_Mp_moves sn sx M q T D r B V L F R S P _ ov from rfl) hM)
def y_MoveRow_has_L (sn : Nat) (sx : Nat → Int32) (M : List am_C) (q : Nat × Nat) (T : TxT) (D : BdT) (r : RdT) (B : BdT) (V : MvT) (F : RwT) (R : Nat → RwT) (S : SoT) (P : HeT) (w : RwT) (oo : am_O) : Int32 → Prop
  | ov => oo = (.inl (some (.int ov)), (zl sn sx, xa xm T D r B (xb V w F R S P), M, q))
theorem se_MoveRow_has_L {sn : Nat} {sx : Nat → Int32} {M : List am_C} {q : Nat × Nat} {T : TxT} {D : BdT} {r : RdT} {B : BdT} {V : MvT} {F : RwT} {R : Nat → RwT} {S : SoT} {P : HeT} {w : RwT} {x1 : Int32} {oo : am_O} {e : Int32} (hx : y_MoveRow_has_L sn sx M q T D r B V F R S P w oo e) (hM : f_MoveRow_has x1 w = some e) : am_ev 1 k_MoveRow_has (0, [.ref 125, .int x1], [], (zl sn sx, xa xm T D r B (xb V w F R S P), M, q)) oo := by
  unfold f_MoveRow_has at hM
  rcases am_if hM with ⟨c1, hM⟩ | ⟨c1, hM⟩
  · refine am_ev.kt 2 16 4 [.ref 125, .int x1] [] (zl sn sx, xa xm T D r B (xb V w F R S P), M, q) c1 (fun _ _ => rfl) ?_
    cases hM
    cases hx
    exact am_ev.kf 2 (fun _ _ => rfl)
  · refine am_ev.ke 2 16 4 [.ref 125, .int x1] [] (zl sn sx, xa xm T D r B (xb V w F R S P), M, q) c1 (fun _ _ => rfl) ?_
    rcases am_if hM with ⟨c2, hM⟩ | ⟨c2, hM⟩
    · refine am_ev.kt 4 16 12 [.ref 125, .int x1] [] (zl sn sx, xa xm T D r B (xb V w F R S P), M, q) c2 (fun _ _ => rfl) ?_
      cases hM
      cases hx
      exact am_ev.kf 2 (fun _ _ => rfl)
    · refine am_ev.ke 4 16 12 [.ref 125, .int x1] [] (zl sn sx, xa xm T D r B (xb V w F R S P), M, q) c2 (fun _ _ => rfl) ?_
      cases hM
      cases hx
      exact am_ev.kf 3 (fun _ _ => rfl)
theorem s_MoveRow_has_L {sn : Nat} {sx : Nat → Int32} {M : List am_C} {q : Nat × Nat} {T : TxT} {D : BdT} {r : RdT} {B : BdT} {V : MvT} {F : RwT} {R : Nat → RwT} {S : SoT} {P : HeT} {w : RwT} {x1 : Int32} {ov : Int32} (hM : f_MoveRow_has x1 w = some ov) : am_cv 2 k_MoveRow_has [.ref 125, .int x1] (zl sn sx, xa xm T D r B (xb V w F R S P), M, q) (.inl (some (.int ov)), (zl sn sx, xa xm T D r B (xb V w F R S P), M, q)) := am_cv.of rfl (se_MoveRow_has_L (e := ov) (show y_MoveRow_has_L sn sx M q T D r B V F R S P w _ ov from rfl) hM)
def y_Mp_move (sn : Nat) (sx : Nat → Int32) (M : List am_C) (q : Nat × Nat) (T : TxT) (D : BdT) (r : RdT) (B : BdT) (V : MvT) (L : RwT) (F : RwT) (R : Nat → RwT) (S : SoT) (P : HeT) (oo : am_O) : (Int32 ⊕ Nat) → Prop
  | oe => oo = (am_out (oe.map (fun v => some (.int v)) id) (zl sn sx, xa xm T D r B (xb V L F R S P), M, q))
theorem se_Mp_move {sn : Nat} {sx : Nat → Int32} {M : List am_C} {q : Nat × Nat} {T : TxT} {D : BdT} {r : RdT} {B : BdT} {V : MvT} {L : RwT} {F : RwT} {R : Nat → RwT} {S : SoT} {P : HeT} {x1 : Int32} {oo : am_O} {e : (Int32 ⊕ Nat)} (hx : y_Mp_move sn sx M q T D r B V L F R S P oo e) (hM : f_Mp_move x1 L = some e) : am_ev 2 k_Mp_move (0, [.ref 100, .int x1], [], (zl sn sx, xa xm T D r B (xb V L F R S P), M, q)) oo := by
  unfold f_Mp_move at hM
  obtain ⟨rr, hc, hM⟩ := am_bind hM
  obtain ⟨r1, rfl⟩ : ∃ z, z = rr := ⟨_, rfl⟩
  refine am_ev.kg 3 (pc' := 5) (lv' := [.ref 100, .int x1]) (st' := [.int x1, .ref 125]) (h' := (zl sn sx, xa xm T D r B (xb V L F R S P), M, q)) (fun _ _ => rfl) ?_
  refine am_ev.call rfl rfl rfl ((s_MoveRow_has_L hc).mono (by decide)) ?_
  show am_ev _ k_Mp_move (8, [.ref 100, .int x1], [.int r1], (zl sn sx, xa xm T D r B (xb V L F R S P), M, q)) oo
  rcases am_if hM with ⟨c1, hM⟩ | ⟨c1, hM⟩
  · refine am_ev.kt 1 21 11 [.ref 100, .int x1] [] (zl sn sx, xa xm T D r B (xb V L F R S P), M, q) c1 (fun _ _ => rfl) ?_
    obtain ⟨c2, hM⟩ := am_ifn hM
    refine am_ev.kc 5 30 [.ref 100, .int x1] [.int ((rw_told L) (x1).toNatClampNeg)] (zl sn sx, xa xm T D r B (xb V L F R S P), M, q) c2 (fun _ _ => rfl) ?_
    cases hM
    cases hx
    exact am_ev.kf 1 (fun _ _ => rfl)
  · refine am_ev.ke 1 21 11 [.ref 100, .int x1] [] (zl sn sx, xa xm T D r B (xb V L F R S P), M, q) c1 (fun _ _ => rfl) ?_
    cases hM
    cases hx
    exact am_ev.kf 1 (fun _ _ => rfl)
theorem s_Mp_move {sn : Nat} {sx : Nat → Int32} {M : List am_C} {q : Nat × Nat} {T : TxT} {D : BdT} {r : RdT} {B : BdT} {V : MvT} {L : RwT} {F : RwT} {R : Nat → RwT} {S : SoT} {P : HeT} {x1 : Int32} {oe : (Int32 ⊕ Nat)} (hM : f_Mp_move x1 L = some oe) : am_cv 3 k_Mp_move [.ref 100, .int x1] (zl sn sx, xa xm T D r B (xb V L F R S P), M, q) (am_out (oe.map (fun v => some (.int v)) id) (zl sn sx, xa xm T D r B (xb V L F R S P), M, q)) := am_cv.of rfl (se_Mp_move (e := oe) (show y_Mp_move sn sx M q T D r B V L F R S P _ oe from rfl) hM)
def y_MoveRow_holds_L (sn : Nat) (sx : Nat → Int32) (M : List am_C) (q : Nat × Nat) (T : TxT) (D : BdT) (r : RdT) (B : BdT) (V : MvT) (F : RwT) (R : Nat → RwT) (S : SoT) (P : HeT) (w : RwT) (oo : am_O) : Int32 → Prop
  | ov => oo = (.inl (some (.int ov)), (zl sn sx, xa xm T D r B (xb V w F R S P), M, q))
def x_MoveRow_holds_L_2 (sn : Nat) (sx : Nat → Int32) (M : List am_C) (q : Nat × Nat) (T : TxT) (D : BdT) (r : RdT) (B : BdT) (V : MvT) (F : RwT) (R : Nat → RwT) (S : SoT) (P : HeT) (w : RwT) (x1 : Int32) (oo : am_O) : Int32 → Prop
  | ov => oo = (.inl (some (.int ov)), (zl sn sx, xa xm T D r B (xb V w F R S P), M, q))
theorem sb_MoveRow_holds_L_2 {fu : Nat} {sn : Nat} {sx : Nat → Int32} {M : List am_C} {q : Nat × Nat} {T : TxT} {D : BdT} {r : RdT} {B : BdT} {V : MvT} {F : RwT} {R : Nat → RwT} {S : SoT} {P : HeT} {w : RwT} {x1 : Int32} {oo : am_O} {e : Int32} {gg : Int32 → Option (Int32)} (hx : x_MoveRow_holds_L_2 sn sx M q T D r B V F R S P w x1 oo e) (hg : ∀ (x2 : Int32), gg x2 = some e → am_ev 1 k_MoveRow_holds (2, [.ref 125, .int x1, .int x2], [], (zl sn sx, xa xm T D r B (xb V w F R S P), M, q)) oo) {x2 : Int32} (hM : b_MoveRow_holds_2 fu w x1 gg x2 = some e) : am_ev 1 k_MoveRow_holds (2, [.ref 125, .int x1, .int x2], [], (zl sn sx, xa xm T D r B (xb V w F R S P), M, q)) oo := by
  unfold b_MoveRow_holds_2 at hM
  rcases am_if hM with ⟨c1, hM⟩ | ⟨c1, hM⟩
  · refine am_ev.kt 4 28 10 [.ref 125, .int x1, .int x2] [] (zl sn sx, xa xm T D r B (xb V w F R S P), M, q) c1 (fun _ _ => rfl) ?_
    cases hM
    cases hx
    exact am_ev.kf 2 (fun _ _ => rfl)
  · refine am_ev.ke 4 28 10 [.ref 125, .int x1, .int x2] [] (zl sn sx, xa xm T D r B (xb V w F R S P), M, q) c1 (fun _ _ => rfl) ?_
    obtain ⟨c2, hM⟩ := am_ifn hM
    refine am_ev.kc 4 16 [.ref 125, .int x1, .int x2] [.int ((rw_told w) (x2).toNatClampNeg)] (zl sn sx, xa xm T D r B (xb V w F R S P), M, q) c2 (fun _ _ => rfl) ?_
    rcases am_if hM with ⟨c3, hM⟩ | ⟨c3, hM⟩
    · refine am_ev.kt 2 22 20 [.ref 125, .int x1, .int x2] [] (zl sn sx, xa xm T D r B (xb V w F R S P), M, q) c3 (fun _ _ => rfl) ?_
      refine am_ev.kg 2 (pc' := 2) (lv' := [.ref 125, .int x1, .int (x2 + (1 : Int32))]) (st' := []) (h' := (zl sn sx, xa xm T D r B (xb V w F R S P), M, q)) (fun _ _ => rfl) ?_
      exact hg _ hM
    · refine am_ev.ke 2 22 20 [.ref 125, .int x1, .int x2] [] (zl sn sx, xa xm T D r B (xb V w F R S P), M, q) c3 (fun _ _ => rfl) ?_
      cases hM
      cases hx
      exact am_ev.kf 2 (fun _ _ => rfl)
theorem sl_MoveRow_holds_L_2 {fu : Nat} {sn : Nat} {sx : Nat → Int32} {M : List am_C} {q : Nat × Nat} {T : TxT} {D : BdT} {r : RdT} {B : BdT} {V : MvT} {F : RwT} {R : Nat → RwT} {S : SoT} {P : HeT} {w : RwT} {x1 : Int32} {oo : am_O} {e : Int32} (hx : x_MoveRow_holds_L_2 sn sx M q T D r B V F R S P w x1 oo e) : ∀ (n : Nat) (x2 : Int32), l_MoveRow_holds_2 fu w x1 n x2 = some e → am_ev 1 k_MoveRow_holds (2, [.ref 125, .int x1, .int x2], [], (zl sn sx, xa xm T D r B (xb V w F R S P), M, q)) oo
  | 0, _, hM => by have h : (none : Option (Int32)) = some e := hM; cases h
  | n + 1, _, hM => sb_MoveRow_holds_L_2 hx (fun _ hM => sl_MoveRow_holds_L_2 hx n _ hM) hM
theorem se_MoveRow_holds_L {fu : Nat} {sn : Nat} {sx : Nat → Int32} {M : List am_C} {q : Nat × Nat} {T : TxT} {D : BdT} {r : RdT} {B : BdT} {V : MvT} {F : RwT} {R : Nat → RwT} {S : SoT} {P : HeT} {w : RwT} {x1 : Int32} {oo : am_O} {e : Int32} (hx : y_MoveRow_holds_L sn sx M q T D r B V F R S P w oo e) (hM : f_MoveRow_holds fu x1 w = some e) : am_ev 1 k_MoveRow_holds (0, [.ref 125, .int x1, am_ju], [], (zl sn sx, xa xm T D r B (xb V w F R S P), M, q)) oo := by
  unfold f_MoveRow_holds at hM
  refine am_ev.kg 2 (pc' := 2) (lv' := [.ref 125, .int x1, .int (0 : Int32)]) (st' := []) (h' := (zl sn sx, xa xm T D r B (xb V w F R S P), M, q)) (fun _ _ => rfl) ?_
  refine sl_MoveRow_holds_L_2 ?_ _ _ hM
  exact hx
theorem s_MoveRow_holds_L {fu : Nat} {sn : Nat} {sx : Nat → Int32} {M : List am_C} {q : Nat × Nat} {T : TxT} {D : BdT} {r : RdT} {B : BdT} {V : MvT} {F : RwT} {R : Nat → RwT} {S : SoT} {P : HeT} {w : RwT} {x1 : Int32} {ov : Int32} (hM : f_MoveRow_holds fu x1 w = some ov) : am_cv 2 k_MoveRow_holds [.ref 125, .int x1] (zl sn sx, xa xm T D r B (xb V w F R S P), M, q) (.inl (some (.int ov)), (zl sn sx, xa xm T D r B (xb V w F R S P), M, q)) := am_cv.of rfl (se_MoveRow_holds_L (e := ov) (show y_MoveRow_holds_L sn sx M q T D r B V F R S P w _ ov from rfl) hM)
def y_Mp_play (sn : Nat) (sx : Nat → Int32) (M : List am_C) (q : Nat × Nat) (T : TxT) (D : BdT) (r : RdT) (V : MvT) (R : Nat → RwT) (S : SoT) (oo : am_O) : (Int32 ⊕ Nat) × BdT × RwT × RwT × HeT → Prop
  | (oe, oB, oL, oF, oP) => oo = (am_out (oe.map (fun v => some (.int v)) id) (zl sn sx, xa xm T D r oB (xb V oL oF R S oP), M, q))
theorem se_Mp_play {fu : Nat} {sn : Nat} {sx : Nat → Int32} {M : List am_C} {q : Nat × Nat} {T : TxT} {D : BdT} {r : RdT} {B : BdT} {V : MvT} {L : RwT} {F : RwT} {R : Nat → RwT} {S : SoT} {P : HeT} {x1 : Int32} {oo : am_O} {e : (Int32 ⊕ Nat) × BdT × RwT × RwT × HeT} (hx : y_Mp_play sn sx M q T D r V R S oo e) (hM : f_Mp_play fu x1 B L F P = some e) : am_ev 7 k_Mp_play (0, [.ref 100, .int x1], [], (zl sn sx, xa xm T D r B (xb V L F R S P), M, q)) oo := by
  unfold f_Mp_play at hM
  obtain ⟨rr, hc, hM⟩ := am_bind hM
  obtain ⟨r1, rfl⟩ : ∃ z, z = rr := ⟨_, rfl⟩
  refine am_ev.kg 3 (pc' := 5) (lv' := [.ref 100, .int x1]) (st' := [.int x1, .ref 125]) (h' := (zl sn sx, xa xm T D r B (xb V L F R S P), M, q)) (fun _ _ => rfl) ?_
  refine am_ev.call rfl rfl rfl ((s_MoveRow_holds_L hc).mono (by decide)) ?_
  show am_ev _ k_Mp_play (8, [.ref 100, .int x1], [.int r1], (zl sn sx, xa xm T D r B (xb V L F R S P), M, q)) oo
  rcases am_if hM with ⟨c1, hM⟩ | ⟨c1, hM⟩
  · refine am_ev.kt 1 21 11 [.ref 100, .int x1] [] (zl sn sx, xa xm T D r B (xb V L F R S P), M, q) c1 (fun _ _ => rfl) ?_
    rcases am_if hM with ⟨c2, hM⟩ | ⟨c2, hM⟩
    · refine am_ev.kt 5 43 33 [.ref 100, .int x1] [] (zl sn sx, xa xm T D r B (xb V L F R S P), M, q) c2 (fun _ _ => rfl) ?_
      obtain ⟨rr, hc, hM⟩ := am_bind hM
      obtain ⟨bg2, rfl⟩ : ∃ z, z = rr := ⟨_, rfl⟩
      refine am_ev.kg 3 (pc' := 48) (lv' := [.ref 100, .int x1]) (st' := [.int x1, .ref 114]) (h' := (zl sn sx, xa xm T D r B (xb V L F R S P), M, q)) (fun _ _ => rfl) ?_
      refine am_ev.call rfl rfl rfl ((s_Board_make_B hc).mono (by decide)) ?_
      show am_ev _ k_Mp_play (51, [.ref 100, .int x1], [], (zl sn sx, xa xm T D r bg2 (xb V L F R S P), M, q)) oo
      obtain ⟨rr, hc, hM⟩ := am_bind hM
      obtain ⟨bg3, lg4, fg5, pg6⟩ := rr
      refine am_ev.kg 1 (pc' := 52) (lv' := [.ref 100, .int x1]) (st' := [.ref 100]) (h' := (zl sn sx, xa xm T D r bg2 (xb V L F R S P), M, q)) (fun _ _ => rfl) ?_
      refine am_ev.call rfl rfl rfl ((s_Mp_positionChanged hc).mono (by decide)) ?_
      show am_ev _ k_Mp_play (55, [.ref 100, .int x1], [], (zl sn sx, xa xm T D r bg3 (xb V lg4 fg5 R S pg6), M, q)) oo
      cases hM
      cases hx
      exact am_ev.kf 4 (fun _ _ => rfl)
    · refine am_ev.ke 5 43 33 [.ref 100, .int x1] [] (zl sn sx, xa xm T D r B (xb V L F R S P), M, q) c2 (fun _ _ => rfl) ?_
      cases hM
      cases hx
      exact am_ev.kf 1 (fun _ _ => rfl)
  · refine am_ev.ke 1 21 11 [.ref 100, .int x1] [] (zl sn sx, xa xm T D r B (xb V L F R S P), M, q) c1 (fun _ _ => rfl) ?_
    cases hM
    cases hx
    exact am_ev.kf 1 (fun _ _ => rfl)
theorem s_Mp_play {fu : Nat} {sn : Nat} {sx : Nat → Int32} {M : List am_C} {q : Nat × Nat} {T : TxT} {D : BdT} {r : RdT} {B : BdT} {V : MvT} {L : RwT} {F : RwT} {R : Nat → RwT} {S : SoT} {P : HeT} {x1 : Int32} {oe : (Int32 ⊕ Nat)} {oB : BdT} {oL : RwT} {oF : RwT} {oP : HeT} (hM : f_Mp_play fu x1 B L F P = some (oe, oB, oL, oF, oP)) : am_cv 8 k_Mp_play [.ref 100, .int x1] (zl sn sx, xa xm T D r B (xb V L F R S P), M, q) (am_out (oe.map (fun v => some (.int v)) id) (zl sn sx, xa xm T D r oB (xb V oL oF R S oP), M, q)) := am_cv.of rfl (se_Mp_play (e := (oe, oB, oL, oF, oP)) (show y_Mp_play sn sx M q T D r V R S _ (oe, oB, oL, oF, oP) from rfl) hM)
def y_Mp_back (sn : Nat) (sx : Nat → Int32) (M : List am_C) (q : Nat × Nat) (T : TxT) (D : BdT) (r : RdT) (V : MvT) (R : Nat → RwT) (S : SoT) (oo : am_O) : (Int32 ⊕ Nat) × BdT × RwT × RwT × HeT → Prop
  | (oe, oB, oL, oF, oP) => oo = (am_out (oe.map (fun v => some (.int v)) id) (zl sn sx, xa xm T D r oB (xb V oL oF R S oP), M, q))
theorem se_Mp_back {fu : Nat} {sn : Nat} {sx : Nat → Int32} {M : List am_C} {q : Nat × Nat} {T : TxT} {D : BdT} {r : RdT} {B : BdT} {V : MvT} {L : RwT} {F : RwT} {R : Nat → RwT} {S : SoT} {P : HeT} {oo : am_O} {e : (Int32 ⊕ Nat) × BdT × RwT × RwT × HeT} (hx : y_Mp_back sn sx M q T D r V R S oo e) (hM : f_Mp_back fu B L F P = some e) : am_ev 7 k_Mp_back (0, [.ref 100], [], (zl sn sx, xa xm T D r B (xb V L F R S P), M, q)) oo := by
  unfold f_Mp_back at hM
  rcases am_if hM with ⟨c1, hM⟩ | ⟨c1, hM⟩
  · refine am_ev.kt 4 20 10 [.ref 100] [] (zl sn sx, xa xm T D r B (xb V L F R S P), M, q) c1 (fun _ _ => rfl) ?_
    obtain ⟨rr, hc, hM⟩ := am_bind hM
    obtain ⟨bg1, rfl⟩ : ∃ z, z = rr := ⟨_, rfl⟩
    refine am_ev.kg 2 (pc' := 24) (lv' := [.ref 100]) (st' := [.ref 114]) (h' := (zl sn sx, xa xm T D r B (xb V L F R S P), M, q)) (fun _ _ => rfl) ?_
    refine am_ev.call rfl rfl rfl ((s_Board_unmake_B hc).mono (by decide)) ?_
    show am_ev _ k_Mp_back (27, [.ref 100], [], (zl sn sx, xa xm T D r bg1 (xb V L F R S P), M, q)) oo
    obtain ⟨rr, hc, hM⟩ := am_bind hM
    obtain ⟨bg2, lg3, fg4, pg5⟩ := rr
    refine am_ev.kg 1 (pc' := 28) (lv' := [.ref 100]) (st' := [.ref 100]) (h' := (zl sn sx, xa xm T D r bg1 (xb V L F R S P), M, q)) (fun _ _ => rfl) ?_
    refine am_ev.call rfl rfl rfl ((s_Mp_positionChanged hc).mono (by decide)) ?_
    show am_ev _ k_Mp_back (31, [.ref 100], [], (zl sn sx, xa xm T D r bg2 (xb V lg3 fg4 R S pg5), M, q)) oo
    cases hM
    cases hx
    exact am_ev.kf 4 (fun _ _ => rfl)
  · refine am_ev.ke 4 20 10 [.ref 100] [] (zl sn sx, xa xm T D r B (xb V L F R S P), M, q) c1 (fun _ _ => rfl) ?_
    cases hM
    cases hx
    exact am_ev.kf 1 (fun _ _ => rfl)
theorem s_Mp_back {fu : Nat} {sn : Nat} {sx : Nat → Int32} {M : List am_C} {q : Nat × Nat} {T : TxT} {D : BdT} {r : RdT} {B : BdT} {V : MvT} {L : RwT} {F : RwT} {R : Nat → RwT} {S : SoT} {P : HeT} {oe : (Int32 ⊕ Nat)} {oB : BdT} {oL : RwT} {oF : RwT} {oP : HeT} (hM : f_Mp_back fu B L F P = some (oe, oB, oL, oF, oP)) : am_cv 8 k_Mp_back [.ref 100] (zl sn sx, xa xm T D r B (xb V L F R S P), M, q) (am_out (oe.map (fun v => some (.int v)) id) (zl sn sx, xa xm T D r oB (xb V oL oF R S oP), M, q)) := am_cv.of rfl (se_Mp_back (e := (oe, oB, oL, oF, oP)) (show y_Mp_back sn sx M q T D r V R S _ (oe, oB, oL, oF, oP) from rfl) hM)
def y_Board_inCheck_B (sn : Nat) (sx : Nat → Int32) (M : List am_C) (q : Nat × Nat) (c0 : am_C) (tl : List am_C) (T : TxT) (D : BdT) (r : RdT) (b : BdT) (oo : am_O) : Int32 → Prop
  | ov => oo = (.inl (some (.int ov)), (zl sn sx, xa c0 T D r b tl, M, q))
theorem se_Board_inCheck_B {fu : Nat} {sn : Nat} {sx : Nat → Int32} {M : List am_C} {q : Nat × Nat} {c0 : am_C} {tl : List am_C} {T : TxT} {D : BdT} {r : RdT} {b : BdT} {oo : am_O} {e : Int32} (hx : y_Board_inCheck_B sn sx M q c0 tl T D r b oo e) (hM : f_Board_inCheck fu b = some e) : am_ev 2 k_Board_inCheck (0, [.ref 114], [], (zl sn sx, xa c0 T D r b tl, M, q)) oo := by
  unfold f_Board_inCheck at hM
  obtain ⟨c1, hM⟩ := am_ifn hM
  refine am_ev.kc 6 10 [.ref 114] [.int ((bd_kings b) ((bd_side b)).toNatClampNeg), .ref 114] (zl sn sx, xa c0 T D r b tl, M, q) c1 (fun _ _ => rfl) ?_
  obtain ⟨rr, hc, hM⟩ := am_bind hM
  obtain ⟨r1, rfl⟩ : ∃ z, z = rr := ⟨_, rfl⟩
  refine am_ev.kg 4 (pc' := 16) (lv' := [.ref 114]) (st' := [.int ((1 : Int32) - (bd_side b)), .int ((bd_kings b) ((bd_side b)).toNatClampNeg), .ref 114]) (h' := (zl sn sx, xa c0 T D r b tl, M, q)) (fun _ _ => rfl) ?_
  refine am_ev.call rfl rfl rfl ((s_Board_attacked_B hc).mono (by decide)) ?_
  show am_ev _ k_Board_inCheck (19, [.ref 114], [.int r1], (zl sn sx, xa c0 T D r b tl, M, q)) oo
  cases hM
  cases hx
  exact am_ev.kf 1 (fun _ _ => rfl)
theorem s_Board_inCheck_B {fu : Nat} {sn : Nat} {sx : Nat → Int32} {M : List am_C} {q : Nat × Nat} {c0 : am_C} {tl : List am_C} {T : TxT} {D : BdT} {r : RdT} {b : BdT} {ov : Int32} (hM : f_Board_inCheck fu b = some ov) : am_cv 3 k_Board_inCheck [.ref 114] (zl sn sx, xa c0 T D r b tl, M, q) (.inl (some (.int ov)), (zl sn sx, xa c0 T D r b tl, M, q)) := am_cv.of rfl (se_Board_inCheck_B (e := ov) (show y_Board_inCheck_B sn sx M q c0 tl T D r b _ ov from rfl) hM)
def y_Mp_beaten (sn : Nat) (sx : Nat → Int32) (M : List am_C) (q : Nat × Nat) (T : TxT) (D : BdT) (r : RdT) (B : BdT) (V : MvT) (L : RwT) (F : RwT) (R : Nat → RwT) (S : SoT) (P : HeT) (oo : am_O) : Int32 → Prop
  | ov => oo = (.inl (some (.int ov)), (zl sn sx, xa xm T D r B (xb V L F R S P), M, q))
theorem se_Mp_beaten {fu : Nat} {sn : Nat} {sx : Nat → Int32} {M : List am_C} {q : Nat × Nat} {T : TxT} {D : BdT} {r : RdT} {B : BdT} {V : MvT} {L : RwT} {F : RwT} {R : Nat → RwT} {S : SoT} {P : HeT} {oo : am_O} {e : Int32} (hx : y_Mp_beaten sn sx M q T D r B V L F R S P oo e) (hM : f_Mp_beaten fu B L = some e) : am_ev 3 k_Mp_beaten (0, [.ref 100], [], (zl sn sx, xa xm T D r B (xb V L F R S P), M, q)) oo := by
  unfold f_Mp_beaten at hM
  rcases am_if hM with ⟨c1, hM⟩ | ⟨c1, hM⟩
  · refine am_ev.kt 4 12 10 [.ref 100] [] (zl sn sx, xa xm T D r B (xb V L F R S P), M, q) c1 (fun _ _ => rfl) ?_
    obtain ⟨rr, hc, hM⟩ := am_bind hM
    obtain ⟨r1, rfl⟩ : ∃ z, z = rr := ⟨_, rfl⟩
    refine am_ev.kg 2 (pc' := 16) (lv' := [.ref 100]) (st' := [.ref 114]) (h' := (zl sn sx, xa xm T D r B (xb V L F R S P), M, q)) (fun _ _ => rfl) ?_
    refine am_ev.call rfl rfl rfl ((s_Board_inCheck_B hc).mono (by decide)) ?_
    show am_ev _ k_Mp_beaten (19, [.ref 100], [.int r1], (zl sn sx, xa xm T D r B (xb V L F R S P), M, q)) oo
    rcases am_if hM with ⟨c2, hM⟩ | ⟨c2, hM⟩
    · refine am_ev.kt 1 26 22 [.ref 100] [] (zl sn sx, xa xm T D r B (xb V L F R S P), M, q) c2 (fun _ _ => rfl) ?_
      cases hM
      cases hx
      exact am_ev.kf 2 (fun _ _ => rfl)
    · refine am_ev.ke 1 26 22 [.ref 100] [] (zl sn sx, xa xm T D r B (xb V L F R S P), M, q) c2 (fun _ _ => rfl) ?_
      cases hM
      cases hx
      exact am_ev.kf 3 (fun _ _ => rfl)
  · refine am_ev.ke 4 12 10 [.ref 100] [] (zl sn sx, xa xm T D r B (xb V L F R S P), M, q) c1 (fun _ _ => rfl) ?_
    cases hM
    cases hx
    exact am_ev.kf 2 (fun _ _ => rfl)
theorem s_Mp_beaten {fu : Nat} {sn : Nat} {sx : Nat → Int32} {M : List am_C} {q : Nat × Nat} {T : TxT} {D : BdT} {r : RdT} {B : BdT} {V : MvT} {L : RwT} {F : RwT} {R : Nat → RwT} {S : SoT} {P : HeT} {ov : Int32} (hM : f_Mp_beaten fu B L = some ov) : am_cv 4 k_Mp_beaten [.ref 100] (zl sn sx, xa xm T D r B (xb V L F R S P), M, q) (.inl (some (.int ov)), (zl sn sx, xa xm T D r B (xb V L F R S P), M, q)) := am_cv.of rfl (se_Mp_beaten (e := ov) (show y_Mp_beaten sn sx M q T D r B V L F R S P _ ov from rfl) hM)
def y_Solver_hasKey_p6 (sn : Nat) (sx : Nat → Int32) (M : List am_C) (q : Nat × Nat) (T : TxT) (D : BdT) (r : RdT) (L : RwT) (F : RwT) (P : HeT) (oo : am_O) : Int32 × BdT × MvT × (Nat → RwT) × SoT → Prop
  | (ov, oB, oV, oR, oS) => oo = (.inl (some (.int ov)), (zl sn sx, xa xm T D r oB (xb oV L F oR oS P), M, q))
theorem se_Solver_hasKey_p6 {fu : Nat} {dd : Nat} {sn : Nat} {sx : Nat → Int32} {M : List am_C} {q : Nat × Nat} {T : TxT} {D : BdT} {r : RdT} {B : BdT} {V : MvT} {L : RwT} {F : RwT} {R : Nat → RwT} {S : SoT} {P : HeT} {x1 : Int32} {oo : am_O} {e : Int32 × BdT × MvT × (Nat → RwT) × SoT} (hx : y_Solver_hasKey_p6 sn sx M q T D r L F P oo e) (hM : e_Solver_hasKey fu (g_Solver fu dd).1 (g_Solver fu dd).2 x1 (6 : Int32) B V R S = some e) : am_ev 1 k_Solver_hasKey (0, [.ref 142, .int x1, .int (6 : Int32), am_ju, am_ju, am_ju, am_ju, am_ju], [], (zl sn sx, xa xm T D r B (xb V L F R S P), M, q)) oo := by
  unfold e_Solver_hasKey at hM
  rcases am_if hM with ⟨c1, hM⟩ | ⟨c1, hM⟩
  · refine am_ev.kt 3 11 5 [.ref 142, .int x1, .int (6 : Int32), am_ju, am_ju, am_ju, am_ju, am_ju] [] (zl sn sx, xa xm T D r B (xb V L F R S P), M, q) c1 (fun _ _ => rfl) ?_
    cases hM
    cases hx
    exact am_ev.kf 2 (fun _ _ => rfl)
  · refine am_ev.ke 3 11 5 [.ref 142, .int x1, .int (6 : Int32), am_ju, am_ju, am_ju, am_ju, am_ju] [] (zl sn sx, xa xm T D r B (xb V L F R S P), M, q) c1 (fun _ _ => rfl) ?_
    rcases am_if hM with ⟨c2, hM⟩ | ⟨c2, hM⟩
    · exact absurd c2 (by decide)
    · refine am_ev.ke 3 13 11 [.ref 142, .int x1, .int (6 : Int32), am_ju, am_ju, am_ju, am_ju, am_ju] [] (zl sn sx, xa xm T D r B (xb V L F R S P), M, q) c2 (fun _ _ => rfl) ?_
      cases hM
      cases hx
      exact am_ev.kf 2 (fun _ _ => rfl)
theorem s_Solver_hasKey_p6 {fu : Nat} {dd : Nat} {sn : Nat} {sx : Nat → Int32} {M : List am_C} {q : Nat × Nat} {T : TxT} {D : BdT} {r : RdT} {B : BdT} {V : MvT} {L : RwT} {F : RwT} {R : Nat → RwT} {S : SoT} {P : HeT} {x1 : Int32} {ov : Int32} {oB : BdT} {oV : MvT} {oR : Nat → RwT} {oS : SoT} (hM : (g_Solver fu dd).1 x1 (6 : Int32) B V R S = some (ov, oB, oV, oR, oS)) : am_cv 2 k_Solver_hasKey [.ref 142, .int x1, .int (6 : Int32)] (zl sn sx, xa xm T D r B (xb V L F R S P), M, q) (.inl (some (.int ov)), (zl sn sx, xa xm T D r oB (xb oV L F oR oS P), M, q)) := by
  cases dd with
  | zero => have h : (none : Option (Int32 × BdT × MvT × (Nat → RwT) × SoT)) = some (ov, oB, oV, oR, oS) := hM; cases h
  | succ dd => exact am_cv.of rfl (se_Solver_hasKey_p6 (e := (ov, oB, oV, oR, oS)) (show y_Solver_hasKey_p6 sn sx M q T D r L F P _ (ov, oB, oV, oR, oS) from rfl) (show e_Solver_hasKey fu (g_Solver fu dd).1 (g_Solver fu dd).2 x1 (6 : Int32) B V R S = some (ov, oB, oV, oR, oS) from hM))
def y_Mover_canGo (sn : Nat) (sx : Nat → Int32) (M : List am_C) (q : Nat × Nat) (T : TxT) (D : BdT) (r : RdT) (V : MvT) (L : RwT) (F : RwT) (R : Nat → RwT) (S : SoT) (P : HeT) (oo : am_O) : Int32 × BdT → Prop
  | (ov, oB) => oo = (.inl (some (.int ov)), (zl sn sx, xa xm T D r oB (xb V L F R S P), M, q))
def x_Mover_canGo_9 (sn : Nat) (sx : Nat → Int32) (M : List am_C) (q : Nat × Nat) (T : TxT) (D : BdT) (r : RdT) (V : MvT) (L : RwT) (F : RwT) (R : Nat → RwT) (S : SoT) (P : HeT) (x1 : Int32) (oo : am_O) : Int32 × BdT → Prop
  | (ov, oB) => oo = (.inl (some (.int ov)), (zl sn sx, xa xm T D r oB (xb V L F R S P), M, q))
theorem sb_Mover_canGo_9 {fu : Nat} {sn : Nat} {sx : Nat → Int32} {M : List am_C} {q : Nat × Nat} {T : TxT} {D : BdT} {r : RdT} {V : MvT} {L : RwT} {F : RwT} {R : Nat → RwT} {S : SoT} {P : HeT} {x1 : Int32} {oo : am_O} {e : Int32 × BdT} {gg : Int64 → Int32 → BdT → Option (Int32 × BdT)} (hx : x_Mover_canGo_9 sn sx M q T D r V L F R S P x1 oo e) (hg : ∀ (l2 : Int64) (x4 : Int32) (B : BdT), gg l2 x4 B = some e → am_ev 4 k_Mover_canGo (9, [.ref 123, .int x1, .long l2, am_ju, .int x4, am_ju], [], (zl sn sx, xa xm T D r B (xb V L F R S P), M, q)) oo) {l2 : Int64} {x4 : Int32} {B : BdT} (hM : b_Mover_canGo_9 fu x1 gg l2 x4 B = some e) : am_ev 4 k_Mover_canGo (9, [.ref 123, .int x1, .long l2, am_ju, .int x4, am_ju], [], (zl sn sx, xa xm T D r B (xb V L F R S P), M, q)) oo := by
  unfold b_Mover_canGo_9 at hM
  rcases am_if hM with ⟨c1, hM⟩ | ⟨c1, hM⟩
  · refine am_ev.kt 3 73 16 [.ref 123, .int x1, .long l2, am_ju, .int x4, am_ju] [] (zl sn sx, xa xm T D r B (xb V L F R S P), M, q) c1 (fun _ _ => rfl) ?_
    cases hM
    cases hx
    exact am_ev.kf 2 (fun _ _ => rfl)
  · refine am_ev.ke 3 73 16 [.ref 123, .int x1, .long l2, am_ju, .int x4, am_ju] [] (zl sn sx, xa xm T D r B (xb V L F R S P), M, q) c1 (fun _ _ => rfl) ?_
    rcases am_if hM with ⟨c2, hM⟩ | ⟨c2, hM⟩
    · refine am_ev.kt 4 73 22 [.ref 123, .int x1, .long l2, am_ju, .int x4, am_ju] [] (zl sn sx, xa xm T D r B (xb V L F R S P), M, q) c2 (fun _ _ => rfl) ?_
      cases hM
      cases hx
      exact am_ev.kf 2 (fun _ _ => rfl)
    · refine am_ev.ke 4 73 22 [.ref 123, .int x1, .long l2, am_ju, .int x4, am_ju] [] (zl sn sx, xa xm T D r B (xb V L F R S P), M, q) c2 (fun _ _ => rfl) ?_
      obtain ⟨rr, hc, hM⟩ := am_bind hM
      obtain ⟨r2, rfl⟩ : ∃ z, z = rr := ⟨_, rfl⟩
      refine am_ev.kg 5 (pc' := 30) (lv' := [.ref 123, .int x1, .long l2, am_ju, .int x4, am_ju]) (st' := [.long l2, .int (64 : Int32), .int x1, .ref 114]) (h' := (zl sn sx, xa xm T D r B (xb V L F R S P), M, q)) (fun _ _ => rfl) ?_
      refine am_ev.call rfl rfl rfl ((s_Mover_lowest hc).mono (by decide)) ?_
      show am_ev _ k_Mover_canGo (33, [.ref 123, .int x1, .long l2, am_ju, .int x4, am_ju], [.int r2, .int (64 : Int32), .int x1, .ref 114], (zl sn sx, xa xm T D r B (xb V L F R S P), M, q)) oo
      obtain ⟨rr, hc, hM⟩ := am_bind hM
      obtain ⟨bg3, rfl⟩ : ∃ z, z = rr := ⟨_, rfl⟩
      refine am_ev.kg 2 (pc' := 35) (lv' := [.ref 123, .int x1, .long l2, am_ju, .int x4, am_ju]) (st' := [.int (x1 + ((64 : Int32) * r2)), .ref 114]) (h' := (zl sn sx, xa xm T D r B (xb V L F R S P), M, q)) (fun _ _ => rfl) ?_
      refine am_ev.call rfl rfl rfl ((s_Board_make_B hc).mono (by decide)) ?_
      show am_ev _ k_Mover_canGo (38, [.ref 123, .int x1, .long l2, am_ju, .int x4, am_ju], [], (zl sn sx, xa xm T D r bg3 (xb V L F R S P), M, q)) oo
      obtain ⟨rr, hc, hM⟩ := am_bind hM
      obtain ⟨r4, rfl⟩ : ∃ z, z = rr := ⟨_, rfl⟩
      refine am_ev.kg 2 (pc' := 42) (lv' := [.ref 123, .int x1, .long l2, am_ju, .int x4, am_ju]) (st' := [.ref 114]) (h' := (zl sn sx, xa xm T D r bg3 (xb V L F R S P), M, q)) (fun _ _ => rfl) ?_
      refine am_ev.call rfl rfl rfl ((s_Board_isLegal_B hc).mono (by decide)) ?_
      show am_ev _ k_Mover_canGo (45, [.ref 123, .int x1, .long l2, am_ju, .int x4, am_ju], [.int r4], (zl sn sx, xa xm T D r bg3 (xb V L F R S P), M, q)) oo
      obtain ⟨rr, hc, hM⟩ := am_bind hM
      obtain ⟨bg5, rfl⟩ : ∃ z, z = rr := ⟨_, rfl⟩
      refine am_ev.kg 3 (pc' := 51) (lv' := [.ref 123, .int x1, .long l2, am_ju, .int x4, .int r4]) (st' := [.ref 114]) (h' := (zl sn sx, xa xm T D r bg3 (xb V L F R S P), M, q)) (fun _ _ => rfl) ?_
      refine am_ev.call rfl rfl rfl ((s_Board_unmake_B hc).mono (by decide)) ?_
      show am_ev _ k_Mover_canGo (54, [.ref 123, .int x1, .long l2, am_ju, .int x4, .int r4], [], (zl sn sx, xa xm T D r bg5 (xb V L F R S P), M, q)) oo
      rcases am_if hM with ⟨c3, hM⟩ | ⟨c3, hM⟩
      · refine am_ev.kt 2 61 59 [.ref 123, .int x1, .long l2, am_ju, .int x4, .int r4] [] (zl sn sx, xa xm T D r bg5 (xb V L F R S P), M, q) c3 (fun _ _ => rfl) ?_
        refine am_ev.kg 8 (pc' := 9) (lv' := [.ref 123, .int x1, .long (l2 &&& (l2 - (1 : Int64))), am_ju, .int (x4 + (1 : Int32)), .int r4]) (st' := []) (h' := (zl sn sx, xa xm T D r bg5 (xb V L F R S P), M, q)) (fun _ _ => rfl) ?_
        refine am_ev.wk (lv' := [.ref 123, .int x1, .long (l2 &&& (l2 - (1 : Int64))), am_ju, .int (x4 + (1 : Int32)), am_ju]) (am_lc (Or.inr rfl) (am_lc (Or.inr rfl) (am_lc (Or.inr rfl) (am_lc (Or.inr rfl) (am_lc (Or.inr rfl) (am_lc (Or.inl rfl) am_ln)))))) ?_
        exact hg _ _ _ hM
      · refine am_ev.ke 2 61 59 [.ref 123, .int x1, .long l2, am_ju, .int x4, .int r4] [] (zl sn sx, xa xm T D r bg5 (xb V L F R S P), M, q) c3 (fun _ _ => rfl) ?_
        cases hM
        cases hx
        exact am_ev.kf 2 (fun _ _ => rfl)
theorem sl_Mover_canGo_9 {fu : Nat} {sn : Nat} {sx : Nat → Int32} {M : List am_C} {q : Nat × Nat} {T : TxT} {D : BdT} {r : RdT} {V : MvT} {L : RwT} {F : RwT} {R : Nat → RwT} {S : SoT} {P : HeT} {x1 : Int32} {oo : am_O} {e : Int32 × BdT} (hx : x_Mover_canGo_9 sn sx M q T D r V L F R S P x1 oo e) : ∀ (n : Nat) (l2 : Int64) (x4 : Int32) (B : BdT), l_Mover_canGo_9 fu x1 n l2 x4 B = some e → am_ev 4 k_Mover_canGo (9, [.ref 123, .int x1, .long l2, am_ju, .int x4, am_ju], [], (zl sn sx, xa xm T D r B (xb V L F R S P), M, q)) oo
  | 0, _, _, _, hM => by have h : (none : Option (Int32 × BdT)) = some e := hM; cases h
  | n + 1, _, _, _, hM => sb_Mover_canGo_9 hx (fun _ _ _ hM => sl_Mover_canGo_9 hx n _ _ _ hM) hM
theorem se_Mover_canGo {fu : Nat} {sn : Nat} {sx : Nat → Int32} {M : List am_C} {q : Nat × Nat} {T : TxT} {D : BdT} {r : RdT} {B : BdT} {V : MvT} {L : RwT} {F : RwT} {R : Nat → RwT} {S : SoT} {P : HeT} {x1 : Int32} {oo : am_O} {e : Int32 × BdT} (hx : y_Mover_canGo sn sx M q T D r V L F R S P oo e) (hM : f_Mover_canGo fu x1 B = some e) : am_ev 4 k_Mover_canGo (0, [.ref 123, .int x1, am_ju, am_ju, am_ju, am_ju], [], (zl sn sx, xa xm T D r B (xb V L F R S P), M, q)) oo := by
  unfold f_Mover_canGo at hM
  obtain ⟨rr, hc, hM⟩ := am_bind hM
  obtain ⟨r1, rfl⟩ : ∃ z, z = rr := ⟨_, rfl⟩
  refine am_ev.kg 2 (pc' := 2) (lv' := [.ref 123, .int x1, am_ju, am_ju, am_ju, am_ju]) (st' := [.int x1, .ref 123]) (h' := (zl sn sx, xa xm T D r B (xb V L F R S P), M, q)) (fun _ _ => rfl) ?_
  refine am_ev.call rfl rfl rfl ((s_Mover_targets hc).mono (by decide)) ?_
  show am_ev _ k_Mover_canGo (5, [.ref 123, .int x1, am_ju, am_ju, am_ju, am_ju], [.long r1], (zl sn sx, xa xm T D r B (xb V L F R S P), M, q)) oo
  refine am_ev.kg 3 (pc' := 9) (lv' := [.ref 123, .int x1, .long r1, am_ju, .int (0 : Int32), am_ju]) (st' := []) (h' := (zl sn sx, xa xm T D r B (xb V L F R S P), M, q)) (fun _ _ => rfl) ?_
  obtain ⟨ov, oB⟩ := e
  refine sl_Mover_canGo_9 ?_ _ _ _ _ hM
  exact hx
theorem s_Mover_canGo {fu : Nat} {sn : Nat} {sx : Nat → Int32} {M : List am_C} {q : Nat × Nat} {T : TxT} {D : BdT} {r : RdT} {B : BdT} {V : MvT} {L : RwT} {F : RwT} {R : Nat → RwT} {S : SoT} {P : HeT} {x1 : Int32} {ov : Int32} {oB : BdT} (hM : f_Mover_canGo fu x1 B = some (ov, oB)) : am_cv 5 k_Mover_canGo [.ref 123, .int x1] (zl sn sx, xa xm T D r B (xb V L F R S P), M, q) (.inl (some (.int ov)), (zl sn sx, xa xm T D r oB (xb V L F R S P), M, q)) := am_cv.of rfl (se_Mover_canGo (e := (ov, oB)) (show y_Mover_canGo sn sx M q T D r V L F R S P _ (ov, oB) from rfl) hM)
def y_Mover_isBeaten (sn : Nat) (sx : Nat → Int32) (M : List am_C) (q : Nat × Nat) (T : TxT) (D : BdT) (r : RdT) (V : MvT) (L : RwT) (F : RwT) (R : Nat → RwT) (S : SoT) (P : HeT) (oo : am_O) : Int32 × BdT → Prop
  | (ov, oB) => oo = (.inl (some (.int ov)), (zl sn sx, xa xm T D r oB (xb V L F R S P), M, q))
def x_Mover_isBeaten_69 (sn : Nat) (sx : Nat → Int32) (M : List am_C) (q : Nat × Nat) (T : TxT) (D : BdT) (r : RdT) (V : MvT) (L : RwT) (F : RwT) (R : Nat → RwT) (S : SoT) (P : HeT) (oo : am_O) : Int32 × BdT → Prop
  | (ov, oB) => oo = (.inl (some (.int ov)), (zl sn sx, xa xm T D r oB (xb V L F R S P), M, q))
theorem sj_Mover_isBeaten_95 {fu : Nat} {sn : Nat} {sx : Nat → Int32} {M : List am_C} {q : Nat × Nat} {T : TxT} {D : BdT} {r : RdT} {B : BdT} {V : MvT} {L : RwT} {F : RwT} {R : Nat → RwT} {S : SoT} {P : HeT} {l3 : Int64} {x7 : Int32} {t0 : Int64} {oo : am_O} {e : Int32 × BdT} {gg : Int64 → Int64 → Int32 → BdT → Option (Int32 × BdT)} (hx : x_Mover_isBeaten_69 sn sx M q T D r V L F R S P oo e) (hg : ∀ (l3 : Int64) (l5 : Int64) (x7 : Int32) (B : BdT), gg l3 l5 x7 B = some e → am_ev 5 k_Mover_isBeaten (69, [.ref 123, am_ju, am_ju, .long l3, am_ju, .long l5, am_ju, .int x7, am_ju], [], (zl sn sx, xa xm T D r B (xb V L F R S P), M, q)) oo) (hM : j_Mover_isBeaten_95 fu gg B l3 x7 t0 = some e) : am_ev 5 k_Mover_isBeaten (95, [.ref 123, am_ju, am_ju, .long l3, am_ju, am_ju, am_ju, .int x7, am_ju], [.long t0], (zl sn sx, xa xm T D r B (xb V L F R S P), M, q)) oo := by
  unfold j_Mover_isBeaten_95 at hM
  obtain ⟨rr, hc, hM⟩ := am_bind hM
  obtain ⟨r2, rfl⟩ : ∃ z, z = rr := ⟨_, rfl⟩
  refine am_ev.call rfl rfl rfl ((s_Mover_lowest hc).mono (by decide)) ?_
  show am_ev _ k_Mover_isBeaten (98, [.ref 123, am_ju, am_ju, .long l3, am_ju, am_ju, am_ju, .int x7, am_ju], [.int r2], (zl sn sx, xa xm T D r B (xb V L F R S P), M, q)) oo
  obtain ⟨rr, hc, hM⟩ := am_bind hM
  obtain ⟨r3, bg4⟩ := rr
  refine am_ev.kg 13 (pc' := 117) (lv' := [.ref 123, am_ju, am_ju, .long (l3 &&& ((am_shl (1 : Int64) r2) ^^^ (-1 : Int64))), am_ju, .long (0 : Int64), am_ju, .int x7, .int r2]) (st' := [.int r2, .ref 123]) (h' := (zl sn sx, xa xm T D r B (xb V L F R S P), M, q)) (fun _ _ => rfl) ?_
  refine am_ev.call rfl rfl rfl ((s_Mover_canGo hc).mono (by decide)) ?_
  show am_ev _ k_Mover_isBeaten (120, [.ref 123, am_ju, am_ju, .long (l3 &&& ((am_shl (1 : Int64) r2) ^^^ (-1 : Int64))), am_ju, .long (0 : Int64), am_ju, .int x7, .int r2], [.int r3], (zl sn sx, xa xm T D r bg4 (xb V L F R S P), M, q)) oo
  rcases am_if hM with ⟨c1, hM⟩ | ⟨c1, hM⟩
  · refine am_ev.kt 1 125 123 [.ref 123, am_ju, am_ju, .long (l3 &&& ((am_shl (1 : Int64) r2) ^^^ (-1 : Int64))), am_ju, .long (0 : Int64), am_ju, .int x7, .int r2] [] (zl sn sx, xa xm T D r bg4 (xb V L F R S P), M, q) c1 (fun _ _ => rfl) ?_
    refine am_ev.kg 2 (pc' := 69) (lv' := [.ref 123, am_ju, am_ju, .long (l3 &&& ((am_shl (1 : Int64) r2) ^^^ (-1 : Int64))), am_ju, .long (0 : Int64), am_ju, .int (x7 + (1 : Int32)), .int r2]) (st' := []) (h' := (zl sn sx, xa xm T D r bg4 (xb V L F R S P), M, q)) (fun _ _ => rfl) ?_
    refine am_ev.wk (lv' := [.ref 123, am_ju, am_ju, .long (l3 &&& ((am_shl (1 : Int64) r2) ^^^ (-1 : Int64))), am_ju, .long (0 : Int64), am_ju, .int (x7 + (1 : Int32)), am_ju]) (am_lc (Or.inr rfl) (am_lc (Or.inr rfl) (am_lc (Or.inr rfl) (am_lc (Or.inr rfl) (am_lc (Or.inr rfl) (am_lc (Or.inr rfl) (am_lc (Or.inr rfl) (am_lc (Or.inr rfl) (am_lc (Or.inl rfl) am_ln))))))))) ?_
    exact hg _ _ _ _ hM
  · refine am_ev.ke 1 125 123 [.ref 123, am_ju, am_ju, .long (l3 &&& ((am_shl (1 : Int64) r2) ^^^ (-1 : Int64))), am_ju, .long (0 : Int64), am_ju, .int x7, .int r2] [] (zl sn sx, xa xm T D r bg4 (xb V L F R S P), M, q) c1 (fun _ _ => rfl) ?_
    cases hM
    cases hx
    exact am_ev.kf 2 (fun _ _ => rfl)
theorem sb_Mover_isBeaten_69 {fu : Nat} {sn : Nat} {sx : Nat → Int32} {M : List am_C} {q : Nat × Nat} {T : TxT} {D : BdT} {r : RdT} {V : MvT} {L : RwT} {F : RwT} {R : Nat → RwT} {S : SoT} {P : HeT} {oo : am_O} {e : Int32 × BdT} {gg : Int64 → Int64 → Int32 → BdT → Option (Int32 × BdT)} (hx : x_Mover_isBeaten_69 sn sx M q T D r V L F R S P oo e) (hg : ∀ (l3 : Int64) (l5 : Int64) (x7 : Int32) (B : BdT), gg l3 l5 x7 B = some e → am_ev 5 k_Mover_isBeaten (69, [.ref 123, am_ju, am_ju, .long l3, am_ju, .long l5, am_ju, .int x7, am_ju], [], (zl sn sx, xa xm T D r B (xb V L F R S P), M, q)) oo) {l3 : Int64} {l5 : Int64} {x7 : Int32} {B : BdT} (hM : b_Mover_isBeaten_69 fu gg l3 l5 x7 B = some e) : am_ev 5 k_Mover_isBeaten (69, [.ref 123, am_ju, am_ju, .long l3, am_ju, .long l5, am_ju, .int x7, am_ju], [], (zl sn sx, xa xm T D r B (xb V L F R S P), M, q)) oo := by
  unfold b_Mover_isBeaten_69 at hM
  rcases am_if hM with ⟨c2, hM⟩ | ⟨c2, hM⟩
  · refine am_ev.kt 3 131 76 [.ref 123, am_ju, am_ju, .long l3, am_ju, .long l5, am_ju, .int x7, am_ju] [] (zl sn sx, xa xm T D r B (xb V L F R S P), M, q) c2 (fun _ _ => rfl) ?_
    cases hM
    cases hx
    exact am_ev.kf 2 (fun _ _ => rfl)
  · refine am_ev.ke 3 131 76 [.ref 123, am_ju, am_ju, .long l3, am_ju, .long l5, am_ju, .int x7, am_ju] [] (zl sn sx, xa xm T D r B (xb V L F R S P), M, q) c2 (fun _ _ => rfl) ?_
    rcases am_if hM with ⟨c3, hM⟩ | ⟨c3, hM⟩
    · refine am_ev.kt 4 131 82 [.ref 123, am_ju, am_ju, .long l3, am_ju, .long l5, am_ju, .int x7, am_ju] [] (zl sn sx, xa xm T D r B (xb V L F R S P), M, q) c3 (fun _ _ => rfl) ?_
      cases hM
      cases hx
      exact am_ev.kf 2 (fun _ _ => rfl)
    · refine am_ev.ke 4 131 82 [.ref 123, am_ju, am_ju, .long l3, am_ju, .long l5, am_ju, .int x7, am_ju] [] (zl sn sx, xa xm T D r B (xb V L F R S P), M, q) c3 (fun _ _ => rfl) ?_
      rcases am_if hM with ⟨c4, hM⟩ | ⟨c4, hM⟩
      · refine am_ev.kt 4 94 89 [.ref 123, am_ju, am_ju, .long l3, am_ju, .long l5, am_ju, .int x7, am_ju] [] (zl sn sx, xa xm T D r B (xb V L F R S P), M, q) c4 (fun _ _ => rfl) ?_
        refine am_ev.kg 1 (pc' := 95) (lv' := [.ref 123, am_ju, am_ju, .long l3, am_ju, .long l5, am_ju, .int x7, am_ju]) (st' := [.long l3]) (h' := (zl sn sx, xa xm T D r B (xb V L F R S P), M, q)) (fun _ _ => rfl) ?_
        refine am_ev.wk (lv' := [.ref 123, am_ju, am_ju, .long l3, am_ju, am_ju, am_ju, .int x7, am_ju]) (am_lc (Or.inr rfl) (am_lc (Or.inr rfl) (am_lc (Or.inr rfl) (am_lc (Or.inr rfl) (am_lc (Or.inr rfl) (am_lc (Or.inl rfl) (am_lc (Or.inr rfl) (am_lc (Or.inr rfl) (am_lc (Or.inr rfl) am_ln))))))))) ?_
        exact sj_Mover_isBeaten_95 hx hg hM
      · refine am_ev.ke 4 94 89 [.ref 123, am_ju, am_ju, .long l3, am_ju, .long l5, am_ju, .int x7, am_ju] [] (zl sn sx, xa xm T D r B (xb V L F R S P), M, q) c4 (fun _ _ => rfl) ?_
        refine am_ev.kg 2 (pc' := 95) (lv' := [.ref 123, am_ju, am_ju, .long l3, am_ju, .long l5, am_ju, .int x7, am_ju]) (st' := [.long l5]) (h' := (zl sn sx, xa xm T D r B (xb V L F R S P), M, q)) (fun _ _ => rfl) ?_
        refine am_ev.wk (lv' := [.ref 123, am_ju, am_ju, .long l3, am_ju, am_ju, am_ju, .int x7, am_ju]) (am_lc (Or.inr rfl) (am_lc (Or.inr rfl) (am_lc (Or.inr rfl) (am_lc (Or.inr rfl) (am_lc (Or.inr rfl) (am_lc (Or.inl rfl) (am_lc (Or.inr rfl) (am_lc (Or.inr rfl) (am_lc (Or.inr rfl) am_ln))))))))) ?_
        exact sj_Mover_isBeaten_95 hx hg hM
theorem sl_Mover_isBeaten_69 {fu : Nat} {sn : Nat} {sx : Nat → Int32} {M : List am_C} {q : Nat × Nat} {T : TxT} {D : BdT} {r : RdT} {V : MvT} {L : RwT} {F : RwT} {R : Nat → RwT} {S : SoT} {P : HeT} {oo : am_O} {e : Int32 × BdT} (hx : x_Mover_isBeaten_69 sn sx M q T D r V L F R S P oo e) : ∀ (n : Nat) (l3 : Int64) (l5 : Int64) (x7 : Int32) (B : BdT), l_Mover_isBeaten_69 fu n l3 l5 x7 B = some e → am_ev 5 k_Mover_isBeaten (69, [.ref 123, am_ju, am_ju, .long l3, am_ju, .long l5, am_ju, .int x7, am_ju], [], (zl sn sx, xa xm T D r B (xb V L F R S P), M, q)) oo
  | 0, _, _, _, _, hM => by have h : (none : Option (Int32 × BdT)) = some e := hM; cases h
  | n + 1, _, _, _, _, hM => sb_Mover_isBeaten_69 hx (fun _ _ _ _ hM => sl_Mover_isBeaten_69 hx n _ _ _ _ hM) hM
theorem sj_Mover_isBeaten_64 {fu : Nat} {sn : Nat} {sx : Nat → Int32} {M : List am_C} {q : Nat × Nat} {T : TxT} {D : BdT} {r : RdT} {B : BdT} {V : MvT} {L : RwT} {F : RwT} {R : Nat → RwT} {S : SoT} {P : HeT} {l3 : Int64} {t0 : Int64} {oo : am_O} {e : Int32 × BdT} (hx : y_Mover_isBeaten sn sx M q T D r V L F R S P oo e) (hM : j_Mover_isBeaten_64 fu B l3 t0 = some e) : am_ev 5 k_Mover_isBeaten (64, [.ref 123, am_ju, am_ju, .long l3, am_ju, am_ju, am_ju, am_ju, am_ju], [.long t0], (zl sn sx, xa xm T D r B (xb V L F R S P), M, q)) oo := by
  unfold j_Mover_isBeaten_64 at hM
  refine am_ev.kg 3 (pc' := 69) (lv' := [.ref 123, am_ju, am_ju, .long l3, am_ju, .long t0, am_ju, .int (0 : Int32), am_ju]) (st' := []) (h' := (zl sn sx, xa xm T D r B (xb V L F R S P), M, q)) (fun _ _ => rfl) ?_
  obtain ⟨ov, oB⟩ := e
  refine sl_Mover_isBeaten_69 ?_ _ _ _ _ _ hM
  exact hx
theorem sj_Mover_isBeaten_18 {fu : Nat} {sn : Nat} {sx : Nat → Int32} {M : List am_C} {q : Nat × Nat} {T : TxT} {D : BdT} {r : RdT} {B : BdT} {V : MvT} {L : RwT} {F : RwT} {R : Nat → RwT} {S : SoT} {P : HeT} {x2 : Int32} {s0 : Int32} {s1 : Int32} {oo : am_O} {e : Int32 × BdT} (hx : y_Mover_isBeaten sn sx M q T D r V L F R S P oo e) (hM : j_Mover_isBeaten_18 fu B x2 s0 s1 = some e) : am_ev 5 k_Mover_isBeaten (18, [.ref 123, am_ju, .int x2, am_ju, am_ju, am_ju, am_ju, am_ju, am_ju], [.int s1, .int s0], (zl sn sx, xa xm T D r B (xb V L F R S P), M, q)) oo := by
  unfold j_Mover_isBeaten_18 at hM
  rcases am_if hM with ⟨c5, hM⟩ | ⟨c5, hM⟩
  · refine am_ev.kt 1 23 21 [.ref 123, am_ju, .int x2, am_ju, am_ju, am_ju, am_ju, am_ju, am_ju] [] (zl sn sx, xa xm T D r B (xb V L F R S P), M, q) c5 (fun _ _ => rfl) ?_
    obtain ⟨c6, hM⟩ := am_ifn hM
    refine am_ev.kc 7 38 [.ref 123, am_ju, .int x2, am_ju, am_ju, am_ju, am_ju, am_ju, am_ju] [.long ((bd_held B) ((bd_side B)).toNatClampNeg)] (zl sn sx, xa xm T D r B (xb V L F R S P), M, q) c6 (fun _ _ => rfl) ?_
    rcases am_if hM with ⟨c7, hM⟩ | ⟨c7, hM⟩
    · refine am_ev.kt 3 63 43 [.ref 123, am_ju, .int x2, .long ((bd_held B) ((bd_side B)).toNatClampNeg), am_ju, am_ju, am_ju, am_ju, am_ju] [] (zl sn sx, xa xm T D r B (xb V L F R S P), M, q) c7 (fun _ _ => rfl) ?_
      refine am_ev.kg 1 (pc' := 64) (lv' := [.ref 123, am_ju, .int x2, .long ((bd_held B) ((bd_side B)).toNatClampNeg), am_ju, am_ju, am_ju, am_ju, am_ju]) (st' := [.long (0 : Int64)]) (h' := (zl sn sx, xa xm T D r B (xb V L F R S P), M, q)) (fun _ _ => rfl) ?_
      refine am_ev.wk (lv' := [.ref 123, am_ju, am_ju, .long ((bd_held B) ((bd_side B)).toNatClampNeg), am_ju, am_ju, am_ju, am_ju, am_ju]) (am_lc (Or.inr rfl) (am_lc (Or.inr rfl) (am_lc (Or.inl rfl) (am_lc (Or.inr rfl) (am_lc (Or.inr rfl) (am_lc (Or.inr rfl) (am_lc (Or.inr rfl) (am_lc (Or.inr rfl) (am_lc (Or.inr rfl) am_ln))))))))) ?_
      exact sj_Mover_isBeaten_64 hx hM
    · refine am_ev.ke 3 63 43 [.ref 123, am_ju, .int x2, .long ((bd_held B) ((bd_side B)).toNatClampNeg), am_ju, am_ju, am_ju, am_ju, am_ju] [] (zl sn sx, xa xm T D r B (xb V L F R S P), M, q) c7 (fun _ _ => rfl) ?_
      obtain ⟨c8, hM⟩ := am_ifn hM
      refine am_ev.kc 8 59 [.ref 123, am_ju, .int x2, .long ((bd_held B) ((bd_side B)).toNatClampNeg), am_ju, am_ju, am_ju, am_ju, am_ju] [.int ((bd_kings B) ((bd_side B)).toNatClampNeg), .long (1 : Int64)] (zl sn sx, xa xm T D r B (xb V L F R S P), M, q) c8 (fun _ _ => rfl) ?_
      refine am_ev.kg 2 (pc' := 64) (lv' := [.ref 123, am_ju, .int x2, .long ((bd_held B) ((bd_side B)).toNatClampNeg), am_ju, am_ju, am_ju, am_ju, am_ju]) (st' := [.long (am_shl (1 : Int64) ((bd_kings B) ((bd_side B)).toNatClampNeg))]) (h' := (zl sn sx, xa xm T D r B (xb V L F R S P), M, q)) (fun _ _ => rfl) ?_
      refine am_ev.wk (lv' := [.ref 123, am_ju, am_ju, .long ((bd_held B) ((bd_side B)).toNatClampNeg), am_ju, am_ju, am_ju, am_ju, am_ju]) (am_lc (Or.inr rfl) (am_lc (Or.inr rfl) (am_lc (Or.inl rfl) (am_lc (Or.inr rfl) (am_lc (Or.inr rfl) (am_lc (Or.inr rfl) (am_lc (Or.inr rfl) (am_lc (Or.inr rfl) (am_lc (Or.inr rfl) am_ln))))))))) ?_
      exact sj_Mover_isBeaten_64 hx hM
  · refine am_ev.ke 1 23 21 [.ref 123, am_ju, .int x2, am_ju, am_ju, am_ju, am_ju, am_ju, am_ju] [] (zl sn sx, xa xm T D r B (xb V L F R S P), M, q) c5 (fun _ _ => rfl) ?_
    cases hM
    cases hx
    exact am_ev.kf 2 (fun _ _ => rfl)
theorem se_Mover_isBeaten {fu : Nat} {sn : Nat} {sx : Nat → Int32} {M : List am_C} {q : Nat × Nat} {T : TxT} {D : BdT} {r : RdT} {B : BdT} {V : MvT} {L : RwT} {F : RwT} {R : Nat → RwT} {S : SoT} {P : HeT} {x1 : Int32} {oo : am_O} {e : Int32 × BdT} (hx : y_Mover_isBeaten sn sx M q T D r V L F R S P oo e) (hM : f_Mover_isBeaten fu x1 B = some e) : am_ev 5 k_Mover_isBeaten (0, [.ref 123, .int x1, am_ju, am_ju, am_ju, am_ju, am_ju, am_ju, am_ju], [], (zl sn sx, xa xm T D r B (xb V L F R S P), M, q)) oo := by
  unfold f_Mover_isBeaten at hM
  obtain ⟨rr, hc, hM⟩ := am_bind hM
  obtain ⟨r1, rfl⟩ : ∃ z, z = rr := ⟨_, rfl⟩
  refine am_ev.kg 2 (pc' := 4) (lv' := [.ref 123, .int x1, am_ju, am_ju, am_ju, am_ju, am_ju, am_ju, am_ju]) (st' := [.ref 114]) (h' := (zl sn sx, xa xm T D r B (xb V L F R S P), M, q)) (fun _ _ => rfl) ?_
  refine am_ev.call rfl rfl rfl ((s_Board_inCheck_B hc).mono (by decide)) ?_
  show am_ev _ k_Mover_isBeaten (7, [.ref 123, .int x1, am_ju, am_ju, am_ju, am_ju, am_ju, am_ju, am_ju], [.int r1], (zl sn sx, xa xm T D r B (xb V L F R S P), M, q)) oo
  rcases am_if hM with ⟨c9, hM⟩ | ⟨c9, hM⟩
  · refine am_ev.kt 4 17 13 [.ref 123, .int x1, .int r1, am_ju, am_ju, am_ju, am_ju, am_ju, am_ju] [.int r1] (zl sn sx, xa xm T D r B (xb V L F R S P), M, q) c9 (fun _ _ => rfl) ?_
    refine am_ev.kg 1 (pc' := 18) (lv' := [.ref 123, .int x1, .int r1, am_ju, am_ju, am_ju, am_ju, am_ju, am_ju]) (st' := [.int (0 : Int32), .int r1]) (h' := (zl sn sx, xa xm T D r B (xb V L F R S P), M, q)) (fun _ _ => rfl) ?_
    refine am_ev.wk (lv' := [.ref 123, am_ju, .int r1, am_ju, am_ju, am_ju, am_ju, am_ju, am_ju]) (am_lc (Or.inr rfl) (am_lc (Or.inl rfl) (am_lc (Or.inr rfl) (am_lc (Or.inr rfl) (am_lc (Or.inr rfl) (am_lc (Or.inr rfl) (am_lc (Or.inr rfl) (am_lc (Or.inr rfl) (am_lc (Or.inr rfl) am_ln))))))))) ?_
    exact sj_Mover_isBeaten_18 hx hM
  · refine am_ev.ke 4 17 13 [.ref 123, .int x1, .int r1, am_ju, am_ju, am_ju, am_ju, am_ju, am_ju] [.int r1] (zl sn sx, xa xm T D r B (xb V L F R S P), M, q) c9 (fun _ _ => rfl) ?_
    refine am_ev.kg 2 (pc' := 18) (lv' := [.ref 123, .int x1, .int r1, am_ju, am_ju, am_ju, am_ju, am_ju, am_ju]) (st' := [.int (1 : Int32), .int r1]) (h' := (zl sn sx, xa xm T D r B (xb V L F R S P), M, q)) (fun _ _ => rfl) ?_
    refine am_ev.wk (lv' := [.ref 123, am_ju, .int r1, am_ju, am_ju, am_ju, am_ju, am_ju, am_ju]) (am_lc (Or.inr rfl) (am_lc (Or.inl rfl) (am_lc (Or.inr rfl) (am_lc (Or.inr rfl) (am_lc (Or.inr rfl) (am_lc (Or.inr rfl) (am_lc (Or.inr rfl) (am_lc (Or.inr rfl) (am_lc (Or.inr rfl) am_ln))))))))) ?_
    exact sj_Mover_isBeaten_18 hx hM
theorem s_Mover_isBeaten {fu : Nat} {sn : Nat} {sx : Nat → Int32} {M : List am_C} {q : Nat × Nat} {T : TxT} {D : BdT} {r : RdT} {B : BdT} {V : MvT} {L : RwT} {F : RwT} {R : Nat → RwT} {S : SoT} {P : HeT} {x1 : Int32} {ov : Int32} {oB : BdT} (hM : f_Mover_isBeaten fu x1 B = some (ov, oB)) : am_cv 6 k_Mover_isBeaten [.ref 123, .int x1] (zl sn sx, xa xm T D r B (xb V L F R S P), M, q) (.inl (some (.int ov)), (zl sn sx, xa xm T D r oB (xb V L F R S P), M, q)) := am_cv.of rfl (se_Mover_isBeaten (e := (ov, oB)) (show y_Mover_isBeaten sn sx M q T D r V L F R S P _ (ov, oB) from rfl) hM)
def y_MoveRow_add_R5 (sn : Nat) (sx : Nat → Int32) (M : List am_C) (q : Nat × Nat) (T : TxT) (D : BdT) (r : RdT) (B : BdT) (V : MvT) (L : RwT) (F : RwT) (R : Nat → RwT) (S : SoT) (P : HeT) (oo : am_O) : RwT → Prop
  | ow => oo = (.inl none, (zl sn sx, xa xm T D r B (xb V L F (va_up R ((5 : Int32)).toNatClampNeg ow) S P), M, q))
theorem se_MoveRow_add_R5 {sn : Nat} {sx : Nat → Int32} {M : List am_C} {q : Nat × Nat} {T : TxT} {D : BdT} {r : RdT} {B : BdT} {V : MvT} {L : RwT} {F : RwT} {R : Nat → RwT} {S : SoT} {P : HeT} {w : RwT} {x1 : Int32} {oo : am_O} {e : RwT} (hx : y_MoveRow_add_R5 sn sx M q T D r B V L F R S P oo e) (hM : f_MoveRow_add x1 w = some e) : am_ev 1 k_MoveRow_add (0, [.ref 140, .int x1], [], (zl sn sx, xa xm T D r B (xb V L F (va_up R ((5 : Int32)).toNatClampNeg w) S P), M, q)) oo := by
  unfold f_MoveRow_add at hM
  rcases am_if hM with ⟨c1, hM⟩ | ⟨c1, hM⟩
  · refine am_ev.kt 4 30 10 [.ref 140, .int x1] [] (zl sn sx, xa xm T D r B (xb V L F (va_up R ((5 : Int32)).toNatClampNeg w) S P), M, q) c1 (fun _ _ => rfl) ?_
    cases hM
    cases hx
    exact am_ev.kf 1 (fun _ _ => rfl)
  · refine am_ev.ke 4 30 10 [.ref 140, .int x1] [] (zl sn sx, xa xm T D r B (xb V L F (va_up R ((5 : Int32)).toNatClampNeg w) S P), M, q) c1 (fun _ _ => rfl) ?_
    obtain ⟨c2, hM⟩ := am_ifn hM
    refine am_ev.kc 6 20 [.ref 140, .int x1] [] (zl sn sx, xa xm T D r B (xb V L F (va_up R ((5 : Int32)).toNatClampNeg ((upd (rw_told w) ((rw_count w)).toNatClampNeg x1), (rw_count w))) S P), M, q) c2 (fun _ _ => rfl) ?_
    cases hM
    cases hx
    exact am_ev.kf 7 (fun _ _ => rfl)
theorem s_MoveRow_add_R5 {sn : Nat} {sx : Nat → Int32} {M : List am_C} {q : Nat × Nat} {T : TxT} {D : BdT} {r : RdT} {B : BdT} {V : MvT} {L : RwT} {F : RwT} {R : Nat → RwT} {S : SoT} {P : HeT} {w : RwT} {x1 : Int32} {ow : RwT} (hM : f_MoveRow_add x1 w = some ow) : am_cv 2 k_MoveRow_add [.ref 140, .int x1] (zl sn sx, xa xm T D r B (xb V L F (va_up R ((5 : Int32)).toNatClampNeg w) S P), M, q) (.inl none, (zl sn sx, xa xm T D r B (xb V L F (va_up R ((5 : Int32)).toNatClampNeg ow) S P), M, q)) := am_cv.of rfl (se_MoveRow_add_R5 (e := ow) (show y_MoveRow_add_R5 sn sx M q T D r B V L F R S P _ ow from rfl) hM)
theorem s_MoveRow_add_R5x {sn : Nat} {sx : Nat → Int32} {M : List am_C} {q : Nat × Nat} {T : TxT} {D : BdT} {r : RdT} {B : BdT} {V : MvT} {L : RwT} {F : RwT} {R : Nat → RwT} {S : SoT} {P : HeT} {x1 : Int32} {ow : RwT} (hM : f_MoveRow_add x1 (R ((5 : Int32)).toNatClampNeg) = some ow) : am_cv 2 k_MoveRow_add [.ref 140, .int x1] (zl sn sx, xa xm T D r B (xb V L F R S P), M, q) (.inl none, (zl sn sx, xa xm T D r B (xb V L F (va_up R ((5 : Int32)).toNatClampNeg ow) S P), M, q)) := by
  have h := s_MoveRow_add_R5 (sn := sn) (sx := sx) (M := M) (q := q) (R := R) (w := R ((5 : Int32)).toNatClampNeg) (T := T) (D := D) (r := r) (B := B) (V := V) (L := L) (F := F) (S := S) (P := P) hM
  rw [am_ups] at h
  exact h
def y_MoveRow_addAll_R5 (sn : Nat) (sx : Nat → Int32) (M : List am_C) (q : Nat × Nat) (T : TxT) (D : BdT) (r : RdT) (B : BdT) (V : MvT) (L : RwT) (F : RwT) (R : Nat → RwT) (S : SoT) (P : HeT) (oo : am_O) : RwT → Prop
  | ow => oo = (.inl none, (zl sn sx, xa xm T D r B (xb V L F (va_up R ((5 : Int32)).toNatClampNeg ow) S P), M, q))
def x_MoveRow_addAll_R5_77 (sn : Nat) (sx : Nat → Int32) (M : List am_C) (q : Nat × Nat) (T : TxT) (D : BdT) (r : RdT) (B : BdT) (V : MvT) (L : RwT) (F : RwT) (R : Nat → RwT) (S : SoT) (P : HeT) (x1 : Int32) (x4 : Int32) (l5 : Int64) (x7 : Int32) (x10 : Int32) (oo : am_O) : (RwT) → Prop
  | w => am_ev 2 k_MoveRow_addAll (102, [.ref 140, .int x1, am_ju, am_ju, .int x4, .long l5, am_ju, .int x7, am_ju, am_ju, am_ju, am_ju], [], (zl sn sx, xa xm T D r B (xb V L F (va_up R ((5 : Int32)).toNatClampNeg w) S P), M, q)) oo
def x_MoveRow_addAll_R5_6 (sn : Nat) (sx : Nat → Int32) (M : List am_C) (q : Nat × Nat) (T : TxT) (D : BdT) (r : RdT) (B : BdT) (V : MvT) (L : RwT) (F : RwT) (R : Nat → RwT) (S : SoT) (P : HeT) (x1 : Int32) (x4 : Int32) (oo : am_O) : RwT → Prop
  | ow => oo = (.inl none, (zl sn sx, xa xm T D r B (xb V L F (va_up R ((5 : Int32)).toNatClampNeg ow) S P), M, q))
theorem sb_MoveRow_addAll_R5_77 {fu : Nat} {sn : Nat} {sx : Nat → Int32} {M : List am_C} {q : Nat × Nat} {T : TxT} {D : BdT} {r : RdT} {B : BdT} {V : MvT} {L : RwT} {F : RwT} {R : Nat → RwT} {S : SoT} {P : HeT} {x1 : Int32} {x4 : Int32} {l5 : Int64} {x7 : Int32} {x10 : Int32} {oo : am_O} {e : (RwT)} {gg : Int32 → RwT → Option ((RwT))} (hx : x_MoveRow_addAll_R5_77 sn sx M q T D r B V L F R S P x1 x4 l5 x7 x10 oo e) (hg : ∀ (x11 : Int32) (w : RwT), gg x11 w = some e → am_ev 2 k_MoveRow_addAll (77, [.ref 140, .int x1, am_ju, am_ju, .int x4, .long l5, am_ju, .int x7, am_ju, am_ju, .int x10, .int x11], [], (zl sn sx, xa xm T D r B (xb V L F (va_up R ((5 : Int32)).toNatClampNeg w) S P), M, q)) oo) {x11 : Int32} {w : RwT} (hM : b_MoveRow_addAll_77 fu x1 x4 l5 x7 x10 gg x11 w = some e) : am_ev 2 k_MoveRow_addAll (77, [.ref 140, .int x1, am_ju, am_ju, .int x4, .long l5, am_ju, .int x7, am_ju, am_ju, .int x10, .int x11], [], (zl sn sx, xa xm T D r B (xb V L F (va_up R ((5 : Int32)).toNatClampNeg w) S P), M, q)) oo := by
  unfold b_MoveRow_addAll_77 at hM
  rcases am_if hM with ⟨c1, hM⟩ | ⟨c1, hM⟩
  · refine am_ev.kt 3 102 83 [.ref 140, .int x1, am_ju, am_ju, .int x4, .long l5, am_ju, .int x7, am_ju, am_ju, .int x10, .int x11] [] (zl sn sx, xa xm T D r B (xb V L F (va_up R ((5 : Int32)).toNatClampNeg w) S P), M, q) c1 (fun _ _ => rfl) ?_
    refine am_ev.wk (lv' := [.ref 140, .int x1, am_ju, am_ju, .int x4, .long l5, am_ju, .int x7, am_ju, am_ju, am_ju, am_ju]) (am_lc (Or.inr rfl) (am_lc (Or.inr rfl) (am_lc (Or.inr rfl) (am_lc (Or.inr rfl) (am_lc (Or.inr rfl) (am_lc (Or.inr rfl) (am_lc (Or.inr rfl) (am_lc (Or.inr rfl) (am_lc (Or.inr rfl) (am_lc (Or.inr rfl) (am_lc (Or.inl rfl) (am_lc (Or.inl rfl) am_ln)))))))))))) ?_
    cases hM
    exact hx
  · refine am_ev.ke 3 102 83 [.ref 140, .int x1, am_ju, am_ju, .int x4, .long l5, am_ju, .int x7, am_ju, am_ju, .int x10, .int x11] [] (zl sn sx, xa xm T D r B (xb V L F (va_up R ((5 : Int32)).toNatClampNeg w) S P), M, q) c1 (fun _ _ => rfl) ?_
    obtain ⟨rr, hc, hM⟩ := am_bind hM
    obtain ⟨wg3, rfl⟩ : ∃ z, z = rr := ⟨_, rfl⟩
    refine am_ev.kg 6 (pc' := 93) (lv' := [.ref 140, .int x1, am_ju, am_ju, .int x4, .long l5, am_ju, .int x7, am_ju, am_ju, .int x10, .int x11]) (st' := [.int (x10 + ((4096 : Int32) * x11)), .ref 140]) (h' := (zl sn sx, xa xm T D r B (xb V L F (va_up R ((5 : Int32)).toNatClampNeg w) S P), M, q)) (fun _ _ => rfl) ?_
    refine am_ev.call rfl rfl rfl ((s_MoveRow_add_R5 hc).mono (by decide)) ?_
    show am_ev _ k_MoveRow_addAll (96, [.ref 140, .int x1, am_ju, am_ju, .int x4, .long l5, am_ju, .int x7, am_ju, am_ju, .int x10, .int x11], [], (zl sn sx, xa xm T D r B (xb V L F (va_up R ((5 : Int32)).toNatClampNeg wg3) S P), M, q)) oo
    refine am_ev.kg 2 (pc' := 77) (lv' := [.ref 140, .int x1, am_ju, am_ju, .int x4, .long l5, am_ju, .int x7, am_ju, am_ju, .int x10, .int (x11 + (1 : Int32))]) (st' := []) (h' := (zl sn sx, xa xm T D r B (xb V L F (va_up R ((5 : Int32)).toNatClampNeg wg3) S P), M, q)) (fun _ _ => rfl) ?_
    exact hg _ _ hM
theorem sl_MoveRow_addAll_R5_77 {fu : Nat} {sn : Nat} {sx : Nat → Int32} {M : List am_C} {q : Nat × Nat} {T : TxT} {D : BdT} {r : RdT} {B : BdT} {V : MvT} {L : RwT} {F : RwT} {R : Nat → RwT} {S : SoT} {P : HeT} {x1 : Int32} {x4 : Int32} {l5 : Int64} {x7 : Int32} {x10 : Int32} {oo : am_O} {e : (RwT)} (hx : x_MoveRow_addAll_R5_77 sn sx M q T D r B V L F R S P x1 x4 l5 x7 x10 oo e) : ∀ (n : Nat) (x11 : Int32) (w : RwT), l_MoveRow_addAll_77 fu x1 x4 l5 x7 x10 n x11 w = some e → am_ev 2 k_MoveRow_addAll (77, [.ref 140, .int x1, am_ju, am_ju, .int x4, .long l5, am_ju, .int x7, am_ju, am_ju, .int x10, .int x11], [], (zl sn sx, xa xm T D r B (xb V L F (va_up R ((5 : Int32)).toNatClampNeg w) S P), M, q)) oo
  | 0, _, _, hM => by have h : (none : Option ((RwT))) = some e := hM; cases h
  | n + 1, _, _, hM => sb_MoveRow_addAll_R5_77 hx (fun _ _ hM => sl_MoveRow_addAll_R5_77 hx n _ _ hM) hM
theorem sj_MoveRow_addAll_R5_102 {fu : Nat} {sn : Nat} {sx : Nat → Int32} {M : List am_C} {q : Nat × Nat} {T : TxT} {D : BdT} {r : RdT} {B : BdT} {V : MvT} {L : RwT} {F : RwT} {R : Nat → RwT} {S : SoT} {P : HeT} {w : RwT} {x1 : Int32} {x4 : Int32} {l5 : Int64} {x7 : Int32} {oo : am_O} {e : RwT} {gg : Int64 → Int32 → RwT → Option (RwT)} (hx : x_MoveRow_addAll_R5_6 sn sx M q T D r B V L F R S P x1 x4 oo e) (hg : ∀ (l5 : Int64) (x7 : Int32) (w : RwT), gg l5 x7 w = some e → am_ev 2 k_MoveRow_addAll (6, [.ref 140, .int x1, am_ju, am_ju, .int x4, .long l5, am_ju, .int x7, am_ju, am_ju, am_ju, am_ju], [], (zl sn sx, xa xm T D r B (xb V L F (va_up R ((5 : Int32)).toNatClampNeg w) S P), M, q)) oo) (hM : j_MoveRow_addAll_102 fu gg w x1 x4 l5 x7 = some e) : am_ev 2 k_MoveRow_addAll (102, [.ref 140, .int x1, am_ju, am_ju, .int x4, .long l5, am_ju, .int x7, am_ju, am_ju, am_ju, am_ju], [], (zl sn sx, xa xm T D r B (xb V L F (va_up R ((5 : Int32)).toNatClampNeg w) S P), M, q)) oo := by
  unfold j_MoveRow_addAll_102 at hM
  refine am_ev.kg 2 (pc' := 6) (lv' := [.ref 140, .int x1, am_ju, am_ju, .int x4, .long l5, am_ju, .int (x7 + (1 : Int32)), am_ju, am_ju, am_ju, am_ju]) (st' := []) (h' := (zl sn sx, xa xm T D r B (xb V L F (va_up R ((5 : Int32)).toNatClampNeg w) S P), M, q)) (fun _ _ => rfl) ?_
  exact hg _ _ _ hM
theorem sj_MoveRow_addAll_R5_65 {fu : Nat} {sn : Nat} {sx : Nat → Int32} {M : List am_C} {q : Nat × Nat} {T : TxT} {D : BdT} {r : RdT} {B : BdT} {V : MvT} {L : RwT} {F : RwT} {R : Nat → RwT} {S : SoT} {P : HeT} {w : RwT} {x1 : Int32} {x4 : Int32} {l5 : Int64} {x7 : Int32} {x10 : Int32} {oo : am_O} {e : RwT} {gg : Int64 → Int32 → RwT → Option (RwT)} (hx : x_MoveRow_addAll_R5_6 sn sx M q T D r B V L F R S P x1 x4 oo e) (hg : ∀ (l5 : Int64) (x7 : Int32) (w : RwT), gg l5 x7 w = some e → am_ev 2 k_MoveRow_addAll (6, [.ref 140, .int x1, am_ju, am_ju, .int x4, .long l5, am_ju, .int x7, am_ju, am_ju, am_ju, am_ju], [], (zl sn sx, xa xm T D r B (xb V L F (va_up R ((5 : Int32)).toNatClampNeg w) S P), M, q)) oo) (hM : j_MoveRow_addAll_65 fu gg w x1 x4 l5 x7 x10 = some e) : am_ev 2 k_MoveRow_addAll (65, [.ref 140, .int x1, am_ju, am_ju, .int x4, .long l5, am_ju, .int x7, am_ju, am_ju, .int x10, am_ju], [], (zl sn sx, xa xm T D r B (xb V L F (va_up R ((5 : Int32)).toNatClampNeg w) S P), M, q)) oo := by
  unfold j_MoveRow_addAll_65 at hM
  obtain ⟨rr, hc, hM⟩ := am_bind hM
  obtain ⟨wg2, rfl⟩ : ∃ z, z = rr := ⟨_, rfl⟩
  refine am_ev.kg 2 (pc' := 68) (lv' := [.ref 140, .int x1, am_ju, am_ju, .int x4, .long l5, am_ju, .int x7, am_ju, am_ju, .int x10, am_ju]) (st' := [.int x10, .ref 140]) (h' := (zl sn sx, xa xm T D r B (xb V L F (va_up R ((5 : Int32)).toNatClampNeg w) S P), M, q)) (fun _ _ => rfl) ?_
  refine am_ev.call rfl rfl rfl ((s_MoveRow_add_R5 hc).mono (by decide)) ?_
  show am_ev _ k_MoveRow_addAll (71, [.ref 140, .int x1, am_ju, am_ju, .int x4, .long l5, am_ju, .int x7, am_ju, am_ju, .int x10, am_ju], [], (zl sn sx, xa xm T D r B (xb V L F (va_up R ((5 : Int32)).toNatClampNeg wg2) S P), M, q)) oo
  refine am_ev.kg 1 (pc' := 102) (lv' := [.ref 140, .int x1, am_ju, am_ju, .int x4, .long l5, am_ju, .int x7, am_ju, am_ju, .int x10, am_ju]) (st' := []) (h' := (zl sn sx, xa xm T D r B (xb V L F (va_up R ((5 : Int32)).toNatClampNeg wg2) S P), M, q)) (fun _ _ => rfl) ?_
  refine am_ev.wk (lv' := [.ref 140, .int x1, am_ju, am_ju, .int x4, .long l5, am_ju, .int x7, am_ju, am_ju, am_ju, am_ju]) (am_lc (Or.inr rfl) (am_lc (Or.inr rfl) (am_lc (Or.inr rfl) (am_lc (Or.inr rfl) (am_lc (Or.inr rfl) (am_lc (Or.inr rfl) (am_lc (Or.inr rfl) (am_lc (Or.inr rfl) (am_lc (Or.inr rfl) (am_lc (Or.inr rfl) (am_lc (Or.inl rfl) (am_lc (Or.inr rfl) am_ln)))))))))))) ?_
  exact sj_MoveRow_addAll_R5_102 hx hg hM
theorem sb_MoveRow_addAll_R5_6 {fu : Nat} {sn : Nat} {sx : Nat → Int32} {M : List am_C} {q : Nat × Nat} {T : TxT} {D : BdT} {r : RdT} {B : BdT} {V : MvT} {L : RwT} {F : RwT} {R : Nat → RwT} {S : SoT} {P : HeT} {x1 : Int32} {x4 : Int32} {oo : am_O} {e : RwT} {gg : Int64 → Int32 → RwT → Option (RwT)} (hx : x_MoveRow_addAll_R5_6 sn sx M q T D r B V L F R S P x1 x4 oo e) (hg : ∀ (l5 : Int64) (x7 : Int32) (w : RwT), gg l5 x7 w = some e → am_ev 2 k_MoveRow_addAll (6, [.ref 140, .int x1, am_ju, am_ju, .int x4, .long l5, am_ju, .int x7, am_ju, am_ju, am_ju, am_ju], [], (zl sn sx, xa xm T D r B (xb V L F (va_up R ((5 : Int32)).toNatClampNeg w) S P), M, q)) oo) {l5 : Int64} {x7 : Int32} {w : RwT} (hM : b_MoveRow_addAll_6 fu x1 x4 gg l5 x7 w = some e) : am_ev 2 k_MoveRow_addAll (6, [.ref 140, .int x1, am_ju, am_ju, .int x4, .long l5, am_ju, .int x7, am_ju, am_ju, am_ju, am_ju], [], (zl sn sx, xa xm T D r B (xb V L F (va_up R ((5 : Int32)).toNatClampNeg w) S P), M, q)) oo := by
  unfold b_MoveRow_addAll_6 at hM
  rcases am_if hM with ⟨c2, hM⟩ | ⟨c2, hM⟩
  · refine am_ev.kt 3 108 13 [.ref 140, .int x1, am_ju, am_ju, .int x4, .long l5, am_ju, .int x7, am_ju, am_ju, am_ju, am_ju] [] (zl sn sx, xa xm T D r B (xb V L F (va_up R ((5 : Int32)).toNatClampNeg w) S P), M, q) c2 (fun _ _ => rfl) ?_
    cases hM
    cases hx
    exact am_ev.kf 1 (fun _ _ => rfl)
  · refine am_ev.ke 3 108 13 [.ref 140, .int x1, am_ju, am_ju, .int x4, .long l5, am_ju, .int x7, am_ju, am_ju, am_ju, am_ju] [] (zl sn sx, xa xm T D r B (xb V L F (va_up R ((5 : Int32)).toNatClampNeg w) S P), M, q) c2 (fun _ _ => rfl) ?_
    rcases am_if hM with ⟨c3, hM⟩ | ⟨c3, hM⟩
    · refine am_ev.kt 4 108 20 [.ref 140, .int x1, am_ju, am_ju, .int x4, .long l5, am_ju, .int x7, am_ju, am_ju, am_ju, am_ju] [] (zl sn sx, xa xm T D r B (xb V L F (va_up R ((5 : Int32)).toNatClampNeg w) S P), M, q) c3 (fun _ _ => rfl) ?_
      cases hM
      cases hx
      exact am_ev.kf 1 (fun _ _ => rfl)
    · refine am_ev.ke 4 108 20 [.ref 140, .int x1, am_ju, am_ju, .int x4, .long l5, am_ju, .int x7, am_ju, am_ju, am_ju, am_ju] [] (zl sn sx, xa xm T D r B (xb V L F (va_up R ((5 : Int32)).toNatClampNeg w) S P), M, q) c3 (fun _ _ => rfl) ?_
      obtain ⟨rr, hc, hM⟩ := am_bind hM
      obtain ⟨r1, rfl⟩ : ∃ z, z = rr := ⟨_, rfl⟩
      refine am_ev.kg 14 (pc' := 42) (lv' := [.ref 140, .int x1, am_ju, am_ju, .int x4, .long (l5 ^^^ (l5 &&& (-l5))), am_ju, .int x7, .long (l5 &&& (-l5)), am_ju, am_ju, am_ju]) (st' := [.long ((l5 &&& (-l5)) - (1 : Int64)), .int (64 : Int32), .int x1]) (h' := (zl sn sx, xa xm T D r B (xb V L F (va_up R ((5 : Int32)).toNatClampNeg w) S P), M, q)) (fun _ _ => rfl) ?_
      refine am_ev.call rfl rfl rfl ((s_Long_bitCount hc).mono (by decide)) ?_
      show am_ev _ k_MoveRow_addAll (45, [.ref 140, .int x1, am_ju, am_ju, .int x4, .long (l5 ^^^ (l5 &&& (-l5))), am_ju, .int x7, .long (l5 &&& (-l5)), am_ju, am_ju, am_ju], [.int r1, .int (64 : Int32), .int x1], (zl sn sx, xa xm T D r B (xb V L F (va_up R ((5 : Int32)).toNatClampNeg w) S P), M, q)) oo
      rcases am_if hM with ⟨c4, hM⟩ | ⟨c4, hM⟩
      · refine am_ev.kt 5 65 54 [.ref 140, .int x1, am_ju, am_ju, .int x4, .long (l5 ^^^ (l5 &&& (-l5))), am_ju, .int x7, .long (l5 &&& (-l5)), am_ju, .int (x1 + ((64 : Int32) * r1)), am_ju] [] (zl sn sx, xa xm T D r B (xb V L F (va_up R ((5 : Int32)).toNatClampNeg w) S P), M, q) c4 (fun _ _ => rfl) ?_
        refine am_ev.wk (lv' := [.ref 140, .int x1, am_ju, am_ju, .int x4, .long (l5 ^^^ (l5 &&& (-l5))), am_ju, .int x7, am_ju, am_ju, .int (x1 + ((64 : Int32) * r1)), am_ju]) (am_lc (Or.inr rfl) (am_lc (Or.inr rfl) (am_lc (Or.inr rfl) (am_lc (Or.inr rfl) (am_lc (Or.inr rfl) (am_lc (Or.inr rfl) (am_lc (Or.inr rfl) (am_lc (Or.inr rfl) (am_lc (Or.inl rfl) (am_lc (Or.inr rfl) (am_lc (Or.inr rfl) (am_lc (Or.inr rfl) am_ln)))))))))))) ?_
        exact sj_MoveRow_addAll_R5_65 hx hg hM
      · refine am_ev.ke 5 65 54 [.ref 140, .int x1, am_ju, am_ju, .int x4, .long (l5 ^^^ (l5 &&& (-l5))), am_ju, .int x7, .long (l5 &&& (-l5)), am_ju, .int (x1 + ((64 : Int32) * r1)), am_ju] [] (zl sn sx, xa xm T D r B (xb V L F (va_up R ((5 : Int32)).toNatClampNeg w) S P), M, q) c4 (fun _ _ => rfl) ?_
        rcases am_if hM with ⟨c5, hM⟩ | ⟨c5, hM⟩
        · refine am_ev.kt 6 74 65 [.ref 140, .int x1, am_ju, am_ju, .int x4, .long (l5 ^^^ (l5 &&& (-l5))), am_ju, .int x7, .long (l5 &&& (-l5)), am_ju, .int (x1 + ((64 : Int32) * r1)), am_ju] [] (zl sn sx, xa xm T D r B (xb V L F (va_up R ((5 : Int32)).toNatClampNeg w) S P), M, q) c5 (fun _ _ => rfl) ?_
          refine am_ev.kg 2 (pc' := 77) (lv' := [.ref 140, .int x1, am_ju, am_ju, .int x4, .long (l5 ^^^ (l5 &&& (-l5))), am_ju, .int x7, .long (l5 &&& (-l5)), am_ju, .int (x1 + ((64 : Int32) * r1)), .int (2 : Int32)]) (st' := []) (h' := (zl sn sx, xa xm T D r B (xb V L F (va_up R ((5 : Int32)).toNatClampNeg w) S P), M, q)) (fun _ _ => rfl) ?_
          refine am_ev.wk (lv' := [.ref 140, .int x1, am_ju, am_ju, .int x4, .long (l5 ^^^ (l5 &&& (-l5))), am_ju, .int x7, am_ju, am_ju, .int (x1 + ((64 : Int32) * r1)), .int (2 : Int32)]) (am_lc (Or.inr rfl) (am_lc (Or.inr rfl) (am_lc (Or.inr rfl) (am_lc (Or.inr rfl) (am_lc (Or.inr rfl) (am_lc (Or.inr rfl) (am_lc (Or.inr rfl) (am_lc (Or.inr rfl) (am_lc (Or.inl rfl) (am_lc (Or.inr rfl) (am_lc (Or.inr rfl) (am_lc (Or.inr rfl) am_ln)))))))))))) ?_
          obtain ⟨z, hz, hM⟩ := am_bind hM
          obtain ⟨wz_1, rfl⟩ : ∃ y, y = z := ⟨_, rfl⟩
          refine sl_MoveRow_addAll_R5_77 ?_ _ _ _ hz
          show am_ev 2 k_MoveRow_addAll (102, [.ref 140, .int x1, am_ju, am_ju, .int x4, .long (l5 ^^^ (l5 &&& (-l5))), am_ju, .int x7, am_ju, am_ju, am_ju, am_ju], [], (zl sn sx, xa xm T D r B (xb V L F (va_up R ((5 : Int32)).toNatClampNeg wz_1) S P), M, q)) oo
          exact sj_MoveRow_addAll_R5_102 hx hg hM
        · refine am_ev.ke 6 74 65 [.ref 140, .int x1, am_ju, am_ju, .int x4, .long (l5 ^^^ (l5 &&& (-l5))), am_ju, .int x7, .long (l5 &&& (-l5)), am_ju, .int (x1 + ((64 : Int32) * r1)), am_ju] [] (zl sn sx, xa xm T D r B (xb V L F (va_up R ((5 : Int32)).toNatClampNeg w) S P), M, q) c5 (fun _ _ => rfl) ?_
          refine am_ev.wk (lv' := [.ref 140, .int x1, am_ju, am_ju, .int x4, .long (l5 ^^^ (l5 &&& (-l5))), am_ju, .int x7, am_ju, am_ju, .int (x1 + ((64 : Int32) * r1)), am_ju]) (am_lc (Or.inr rfl) (am_lc (Or.inr rfl) (am_lc (Or.inr rfl) (am_lc (Or.inr rfl) (am_lc (Or.inr rfl) (am_lc (Or.inr rfl) (am_lc (Or.inr rfl) (am_lc (Or.inr rfl) (am_lc (Or.inl rfl) (am_lc (Or.inr rfl) (am_lc (Or.inr rfl) (am_lc (Or.inr rfl) am_ln)))))))))))) ?_
          exact sj_MoveRow_addAll_R5_65 hx hg hM
theorem sl_MoveRow_addAll_R5_6 {fu : Nat} {sn : Nat} {sx : Nat → Int32} {M : List am_C} {q : Nat × Nat} {T : TxT} {D : BdT} {r : RdT} {B : BdT} {V : MvT} {L : RwT} {F : RwT} {R : Nat → RwT} {S : SoT} {P : HeT} {x1 : Int32} {x4 : Int32} {oo : am_O} {e : RwT} (hx : x_MoveRow_addAll_R5_6 sn sx M q T D r B V L F R S P x1 x4 oo e) : ∀ (n : Nat) (l5 : Int64) (x7 : Int32) (w : RwT), l_MoveRow_addAll_6 fu x1 x4 n l5 x7 w = some e → am_ev 2 k_MoveRow_addAll (6, [.ref 140, .int x1, am_ju, am_ju, .int x4, .long l5, am_ju, .int x7, am_ju, am_ju, am_ju, am_ju], [], (zl sn sx, xa xm T D r B (xb V L F (va_up R ((5 : Int32)).toNatClampNeg w) S P), M, q)) oo
  | 0, _, _, _, hM => by have h : (none : Option (RwT)) = some e := hM; cases h
  | n + 1, _, _, _, hM => sb_MoveRow_addAll_R5_6 hx (fun _ _ _ hM => sl_MoveRow_addAll_R5_6 hx n _ _ _ hM) hM
theorem se_MoveRow_addAll_R5 {fu : Nat} {sn : Nat} {sx : Nat → Int32} {M : List am_C} {q : Nat × Nat} {T : TxT} {D : BdT} {r : RdT} {B : BdT} {V : MvT} {L : RwT} {F : RwT} {R : Nat → RwT} {S : SoT} {P : HeT} {w : RwT} {x1 : Int32} {l2 : Int64} {x4 : Int32} {oo : am_O} {e : RwT} (hx : y_MoveRow_addAll_R5 sn sx M q T D r B V L F R S P oo e) (hM : f_MoveRow_addAll fu x1 l2 x4 w = some e) : am_ev 2 k_MoveRow_addAll (0, [.ref 140, .int x1, .long l2, am_ju, .int x4, am_ju, am_ju, am_ju, am_ju, am_ju, am_ju, am_ju], [], (zl sn sx, xa xm T D r B (xb V L F (va_up R ((5 : Int32)).toNatClampNeg w) S P), M, q)) oo := by
  unfold f_MoveRow_addAll at hM
  refine am_ev.kg 4 (pc' := 6) (lv' := [.ref 140, .int x1, .long l2, am_ju, .int x4, .long l2, am_ju, .int (0 : Int32), am_ju, am_ju, am_ju, am_ju]) (st' := []) (h' := (zl sn sx, xa xm T D r B (xb V L F (va_up R ((5 : Int32)).toNatClampNeg w) S P), M, q)) (fun _ _ => rfl) ?_
  refine am_ev.wk (lv' := [.ref 140, .int x1, am_ju, am_ju, .int x4, .long l2, am_ju, .int (0 : Int32), am_ju, am_ju, am_ju, am_ju]) (am_lc (Or.inr rfl) (am_lc (Or.inr rfl) (am_lc (Or.inl rfl) (am_lc (Or.inr rfl) (am_lc (Or.inr rfl) (am_lc (Or.inr rfl) (am_lc (Or.inr rfl) (am_lc (Or.inr rfl) (am_lc (Or.inr rfl) (am_lc (Or.inr rfl) (am_lc (Or.inr rfl) (am_lc (Or.inr rfl) am_ln)))))))))))) ?_
  refine sl_MoveRow_addAll_R5_6 ?_ _ _ _ _ hM
  exact hx
theorem s_MoveRow_addAll_R5 {fu : Nat} {sn : Nat} {sx : Nat → Int32} {M : List am_C} {q : Nat × Nat} {T : TxT} {D : BdT} {r : RdT} {B : BdT} {V : MvT} {L : RwT} {F : RwT} {R : Nat → RwT} {S : SoT} {P : HeT} {w : RwT} {x1 : Int32} {l2 : Int64} {x4 : Int32} {ow : RwT} (hM : f_MoveRow_addAll fu x1 l2 x4 w = some ow) : am_cv 3 k_MoveRow_addAll [.ref 140, .int x1, .long l2, .int x4] (zl sn sx, xa xm T D r B (xb V L F (va_up R ((5 : Int32)).toNatClampNeg w) S P), M, q) (.inl none, (zl sn sx, xa xm T D r B (xb V L F (va_up R ((5 : Int32)).toNatClampNeg ow) S P), M, q)) := am_cv.of rfl (se_MoveRow_addAll_R5 (e := ow) (show y_MoveRow_addAll_R5 sn sx M q T D r B V L F R S P _ ow from rfl) hM)
theorem s_MoveRow_addAll_R5x {fu : Nat} {sn : Nat} {sx : Nat → Int32} {M : List am_C} {q : Nat × Nat} {T : TxT} {D : BdT} {r : RdT} {B : BdT} {V : MvT} {L : RwT} {F : RwT} {R : Nat → RwT} {S : SoT} {P : HeT} {x1 : Int32} {l2 : Int64} {x4 : Int32} {ow : RwT} (hM : f_MoveRow_addAll fu x1 l2 x4 (R ((5 : Int32)).toNatClampNeg) = some ow) : am_cv 3 k_MoveRow_addAll [.ref 140, .int x1, .long l2, .int x4] (zl sn sx, xa xm T D r B (xb V L F R S P), M, q) (.inl none, (zl sn sx, xa xm T D r B (xb V L F (va_up R ((5 : Int32)).toNatClampNeg ow) S P), M, q)) := by
  have h := s_MoveRow_addAll_R5 (sn := sn) (sx := sx) (M := M) (q := q) (R := R) (w := R ((5 : Int32)).toNatClampNeg) (T := T) (D := D) (r := r) (B := B) (V := V) (L := L) (F := F) (S := S) (P := P) hM
  rw [am_ups] at h
  exact h
def y_Mover_fillFrom_R5 (sn : Nat) (sx : Nat → Int32) (M : List am_C) (q : Nat × Nat) (T : TxT) (D : BdT) (r : RdT) (B : BdT) (V : MvT) (L : RwT) (F : RwT) (R : Nat → RwT) (S : SoT) (P : HeT) (oo : am_O) : RwT → Prop
  | ow => oo = (.inl none, (zl sn sx, xa xm T D r B (xb V L F (va_up R ((5 : Int32)).toNatClampNeg ow) S P), M, q))
theorem se_Mover_fillFrom_R5 {fu : Nat} {sn : Nat} {sx : Nat → Int32} {M : List am_C} {q : Nat × Nat} {T : TxT} {D : BdT} {r : RdT} {B : BdT} {V : MvT} {L : RwT} {F : RwT} {R : Nat → RwT} {S : SoT} {P : HeT} {w : RwT} {x1 : Int32} {oo : am_O} {e : RwT} (hx : y_Mover_fillFrom_R5 sn sx M q T D r B V L F R S P oo e) (hM : f_Mover_fillFrom fu x1 w B = some e) : am_ev 4 k_Mover_fillFrom (0, [.ref 123, .int x1, .ref 140], [], (zl sn sx, xa xm T D r B (xb V L F (va_up R ((5 : Int32)).toNatClampNeg w) S P), M, q)) oo := by
  unfold f_Mover_fillFrom at hM
  obtain ⟨rr, hc, hM⟩ := am_bind hM
  obtain ⟨r1, rfl⟩ : ∃ z, z = rr := ⟨_, rfl⟩
  refine am_ev.kg 7 (pc' := 9) (lv' := [.ref 123, .int x1, .ref 140]) (st' := [.int x1, .ref 123, .int x1, .ref 140]) (h' := (zl sn sx, xa xm T D r B (xb V L F (va_up R ((5 : Int32)).toNatClampNeg ((rw_told w), (0 : Int32))) S P), M, q)) (fun _ _ => rfl) ?_
  refine am_ev.call rfl rfl rfl ((s_Mover_targets hc).mono (by decide)) ?_
  show am_ev _ k_Mover_fillFrom (12, [.ref 123, .int x1, .ref 140], [.long r1, .int x1, .ref 140], (zl sn sx, xa xm T D r B (xb V L F (va_up R ((5 : Int32)).toNatClampNeg ((rw_told w), (0 : Int32))) S P), M, q)) oo
  obtain ⟨c1, hM⟩ := am_ifn hM
  refine am_ev.kc 4 18 [.ref 123, .int x1, .ref 140] [.int ((bd_men B) (x1).toNatClampNeg), .long r1, .int x1, .ref 140] (zl sn sx, xa xm T D r B (xb V L F (va_up R ((5 : Int32)).toNatClampNeg ((rw_told w), (0 : Int32))) S P), M, q) c1 (fun _ _ => rfl) ?_
  rcases am_if hM with ⟨c2, hM⟩ | ⟨c2, hM⟩
  · refine am_ev.kt 4 29 25 [.ref 123, .int x1, .ref 140] [.long r1, .int x1, .ref 140] (zl sn sx, xa xm T D r B (xb V L F (va_up R ((5 : Int32)).toNatClampNeg ((rw_told w), (0 : Int32))) S P), M, q) c2 (fun _ _ => rfl) ?_
    obtain ⟨rr, hc, hM⟩ := am_bind hM
    obtain ⟨wg2, rfl⟩ : ∃ z, z = rr := ⟨_, rfl⟩
    refine am_ev.kg 1 (pc' := 30) (lv' := [.ref 123, .int x1, .ref 140]) (st' := [.int (0 : Int32), .long r1, .int x1, .ref 140]) (h' := (zl sn sx, xa xm T D r B (xb V L F (va_up R ((5 : Int32)).toNatClampNeg ((rw_told w), (0 : Int32))) S P), M, q)) (fun _ _ => rfl) ?_
    refine am_ev.call rfl rfl rfl ((s_MoveRow_addAll_R5 hc).mono (by decide)) ?_
    show am_ev _ k_Mover_fillFrom (33, [.ref 123, .int x1, .ref 140], [], (zl sn sx, xa xm T D r B (xb V L F (va_up R ((5 : Int32)).toNatClampNeg wg2) S P), M, q)) oo
    cases hM
    cases hx
    exact am_ev.kf 1 (fun _ _ => rfl)
  · refine am_ev.ke 4 29 25 [.ref 123, .int x1, .ref 140] [.long r1, .int x1, .ref 140] (zl sn sx, xa xm T D r B (xb V L F (va_up R ((5 : Int32)).toNatClampNeg ((rw_told w), (0 : Int32))) S P), M, q) c2 (fun _ _ => rfl) ?_
    obtain ⟨rr, hc, hM⟩ := am_bind hM
    obtain ⟨wg3, rfl⟩ : ∃ z, z = rr := ⟨_, rfl⟩
    refine am_ev.kg 2 (pc' := 30) (lv' := [.ref 123, .int x1, .ref 140]) (st' := [.int (1 : Int32), .long r1, .int x1, .ref 140]) (h' := (zl sn sx, xa xm T D r B (xb V L F (va_up R ((5 : Int32)).toNatClampNeg ((rw_told w), (0 : Int32))) S P), M, q)) (fun _ _ => rfl) ?_
    refine am_ev.call rfl rfl rfl ((s_MoveRow_addAll_R5 hc).mono (by decide)) ?_
    show am_ev _ k_Mover_fillFrom (33, [.ref 123, .int x1, .ref 140], [], (zl sn sx, xa xm T D r B (xb V L F (va_up R ((5 : Int32)).toNatClampNeg wg3) S P), M, q)) oo
    cases hM
    cases hx
    exact am_ev.kf 1 (fun _ _ => rfl)
theorem s_Mover_fillFrom_R5 {fu : Nat} {sn : Nat} {sx : Nat → Int32} {M : List am_C} {q : Nat × Nat} {T : TxT} {D : BdT} {r : RdT} {B : BdT} {V : MvT} {L : RwT} {F : RwT} {R : Nat → RwT} {S : SoT} {P : HeT} {w : RwT} {x1 : Int32} {ow : RwT} (hM : f_Mover_fillFrom fu x1 w B = some ow) : am_cv 5 k_Mover_fillFrom [.ref 123, .int x1, .ref 140] (zl sn sx, xa xm T D r B (xb V L F (va_up R ((5 : Int32)).toNatClampNeg w) S P), M, q) (.inl none, (zl sn sx, xa xm T D r B (xb V L F (va_up R ((5 : Int32)).toNatClampNeg ow) S P), M, q)) := am_cv.of rfl (se_Mover_fillFrom_R5 (e := ow) (show y_Mover_fillFrom_R5 sn sx M q T D r B V L F R S P _ ow from rfl) hM)
theorem s_Mover_fillFrom_R5x {fu : Nat} {sn : Nat} {sx : Nat → Int32} {M : List am_C} {q : Nat × Nat} {T : TxT} {D : BdT} {r : RdT} {B : BdT} {V : MvT} {L : RwT} {F : RwT} {R : Nat → RwT} {S : SoT} {P : HeT} {x1 : Int32} {ow : RwT} (hM : f_Mover_fillFrom fu x1 (R ((5 : Int32)).toNatClampNeg) B = some ow) : am_cv 5 k_Mover_fillFrom [.ref 123, .int x1, .ref 140] (zl sn sx, xa xm T D r B (xb V L F R S P), M, q) (.inl none, (zl sn sx, xa xm T D r B (xb V L F (va_up R ((5 : Int32)).toNatClampNeg ow) S P), M, q)) := by
  have h := s_Mover_fillFrom_R5 (sn := sn) (sx := sx) (M := M) (q := q) (R := R) (w := R ((5 : Int32)).toNatClampNeg) (T := T) (D := D) (r := r) (B := B) (V := V) (L := L) (F := F) (S := S) (P := P) hM
  rw [am_ups] at h
  exact h
