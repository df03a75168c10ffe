def y_HelpLines_walk_p1 (sn : Nat) (sx : Nat → Int32) (M : List am_C) (q : Nat × Nat) (T : TxT) (D : BdT) (r : RdT) (L : RwT) (F : RwT) (S : SoT) (oo : am_O) : BdT × MvT × (Nat → RwT) × HeT → Prop
  | (oB, oV, oR, oP) => oo = (.inl none, (zl sn sx, xa xm T D r oB (xb oV L F oR S oP), M, q))
def x_HelpLines_walk_p1_70 (sn : Nat) (sx : Nat → Int32) (M : List am_C) (q : Nat × Nat) (T : TxT) (D : BdT) (r : RdT) (L : RwT) (F : RwT) (S : SoT) (x3 : Int32) (oo : am_O) : BdT × MvT × (Nat → RwT) × HeT → Prop
  | (oB, oV, oR, oP) => oo = (.inl none, (zl sn sx, xa xm T D r oB (xb oV L F oR S oP), M, q))
theorem sj_HelpLines_walk_p1_148 {fu : Nat} {dd : Nat} {sn : Nat} {sx : Nat → Int32} {M : List am_C} {q : Nat × Nat} {T : TxT} {D : BdT} {r : RdT} {B : BdT} {V : MvT} {L : RwT} {F : RwT} {R : Nat → RwT} {S : SoT} {P : HeT} {x3 : Int32} {x4 : Int32} {oo : am_O} {e : BdT × MvT × (Nat → RwT) × HeT} {gg : Int32 → BdT → MvT → (Nat → RwT) → HeT → Option (BdT × MvT × (Nat → RwT) × HeT)} (hx : x_HelpLines_walk_p1_70 sn sx M q T D r L F S x3 oo e) (hg : ∀ (x4 : Int32) (B : BdT) (V : MvT) (R : Nat → RwT) (P : HeT), gg x4 B V R P = some e → am_ev 8 k_HelpLines_walk (70, [.ref 144, .int (1 : Int32), .ref 132, .int x3, .int x4], [], (zl sn sx, xa xm T D r B (xb V L F R S P), M, q)) oo) (hM : j_HelpLines_walk_148 fu (g_HelpLines fu dd) gg B V R P (1 : Int32) x3 x4 = some e) : am_ev 8 k_HelpLines_walk (148, [.ref 144, .int (1 : Int32), .ref 132, .int x3, .int x4], [], (zl sn sx, xa xm T D r B (xb V L F R S P), M, q)) oo := by
  unfold j_HelpLines_walk_148 at hM
  obtain ⟨rr, hc, hM⟩ := am_bind hM
  obtain ⟨bg13, rfl⟩ : ∃ z, z = rr := ⟨_, rfl⟩
  refine am_ev.kg 2 (pc' := 152) (lv' := [.ref 144, .int (1 : Int32), .ref 132, .int x3, .int x4]) (st' := [.ref 114]) (h' := (zl sn sx, xa xm T D r B (xb V L F R S P), M, q)) (fun _ _ => rfl) ?_
  refine am_ev.call rfl rfl rfl ((s_Board_unmake_B hc).mono (by decide)) ?_
  show am_ev _ k_HelpLines_walk (155, [.ref 144, .int (1 : Int32), .ref 132, .int x3, .int x4], [], (zl sn sx, xa xm T D r bg13 (xb V L F R S P), M, q)) oo
  refine am_ev.kg 2 (pc' := 70) (lv' := [.ref 144, .int (1 : Int32), .ref 132, .int x3, .int (x4 + (1 : Int32))]) (st' := []) (h' := (zl sn sx, xa xm T D r bg13 (xb V L F R S P), M, q)) (fun _ _ => rfl) ?_
  exact hg _ _ _ _ _ hM
theorem sb_HelpLines_walk_p1_70 {fu : Nat} {dd : Nat} {sn : Nat} {sx : Nat → Int32} {M : List am_C} {q : Nat × Nat} {T : TxT} {D : BdT} {r : RdT} {L : RwT} {F : RwT} {S : SoT} {x3 : Int32} {oo : am_O} {e : BdT × MvT × (Nat → RwT) × HeT} {gg : Int32 → BdT → MvT → (Nat → RwT) → HeT → Option (BdT × MvT × (Nat → RwT) × HeT)} (hx : x_HelpLines_walk_p1_70 sn sx M q T D r L F S x3 oo e) (hg : ∀ (x4 : Int32) (B : BdT) (V : MvT) (R : Nat → RwT) (P : HeT), gg x4 B V R P = some e → am_ev 8 k_HelpLines_walk (70, [.ref 144, .int (1 : Int32), .ref 132, .int x3, .int x4], [], (zl sn sx, xa xm T D r B (xb V L F R S P), M, q)) oo) {x4 : Int32} {B : BdT} {V : MvT} {R : Nat → RwT} {P : HeT} (hM : b_HelpLines_walk_70 fu (g_HelpLines fu dd) (1 : Int32) x3 gg x4 B V R P = some e) : am_ev 8 k_HelpLines_walk (70, [.ref 144, .int (1 : Int32), .ref 132, .int x3, .int x4], [], (zl sn sx, xa xm T D r B (xb V L F R S P), M, q)) oo := by
  unfold b_HelpLines_walk_70 at hM
  rcases am_if hM with ⟨c1, hM⟩ | ⟨c1, hM⟩
  · refine am_ev.kt 4 161 79 [.ref 144, .int (1 : Int32), .ref 132, .int x3, .int x4] [] (zl sn sx, xa xm T D r B (xb V L F R S P), M, q) c1 (fun _ _ => rfl) ?_
    cases hM
    cases hx
    exact am_ev.kf 1 (fun _ _ => rfl)
  · refine am_ev.ke 4 161 79 [.ref 144, .int (1 : Int32), .ref 132, .int x3, .int x4] [] (zl sn sx, xa xm T D r B (xb V L F R S P), M, q) c1 (fun _ _ => rfl) ?_
    obtain ⟨c2, hM⟩ := am_ifn hM
    refine am_ev.kc 7 91 [.ref 144, .int (1 : Int32), .ref 132, .int x3, .int x4] [.int ((rw_told (R ((1 : Int32)).toNatClampNeg)) (x4).toNatClampNeg), .int (1 : Int32), .ref 145] (zl sn sx, xa xm T D r B (xb V L F R S P), M, q) c2 (fun _ _ => rfl) ?_
    obtain ⟨c3, hM⟩ := am_ifn hM
    refine am_ev.kc 1 92 [.ref 144, .int (1 : Int32), .ref 132, .int x3, .int x4] [] (zl sn sx, xa xm T D r B (xb V L F R S ((upd (he_path P) ((1 : Int32)).toNatClampNeg ((rw_told (R ((1 : Int32)).toNatClampNeg)) (x4).toNatClampNeg)), (he_kept P), (he_firstKept P), (he_known P), (he_goal P), (he_plies P), (he_count P))), M, q) c3 (fun _ _ => rfl) ?_
    obtain ⟨c4, hM⟩ := am_ifn hM
    refine am_ev.kc 6 103 [.ref 144, .int (1 : Int32), .ref 132, .int x3, .int x4] [.int ((rw_told (R ((1 : Int32)).toNatClampNeg)) (x4).toNatClampNeg), .ref 114] (zl sn sx, xa xm T D r B (xb V L F R S ((upd (he_path P) ((1 : Int32)).toNatClampNeg ((rw_told (R ((1 : Int32)).toNatClampNeg)) (x4).toNatClampNeg)), (he_kept P), (he_firstKept P), (he_known P), (he_goal P), (he_plies P), (he_count P))), M, q) c4 (fun _ _ => rfl) ?_
    obtain ⟨rr, hc, hM⟩ := am_bind hM
    obtain ⟨bg4, rfl⟩ : ∃ z, z = rr := ⟨_, rfl⟩
    refine am_ev.call rfl rfl rfl ((s_Board_make_B hc).mono (by decide)) ?_
    show am_ev _ k_HelpLines_walk (106, [.ref 144, .int (1 : Int32), .ref 132, .int x3, .int x4], [], (zl sn sx, xa xm T D r bg4 (xb V L F R S ((upd (he_path P) ((1 : Int32)).toNatClampNeg ((rw_told (R ((1 : Int32)).toNatClampNeg)) (x4).toNatClampNeg)), (he_kept P), (he_firstKept P), (he_known P), (he_goal P), (he_plies P), (he_count P))), M, q)) oo
    obtain ⟨rr, hc, hM⟩ := am_bind hM
    obtain ⟨r5, rfl⟩ : ∃ z, z = rr := ⟨_, rfl⟩
    refine am_ev.kg 2 (pc' := 110) (lv' := [.ref 144, .int (1 : Int32), .ref 132, .int x3, .int x4]) (st' := [.ref 114]) (h' := (zl sn sx, xa xm T D r bg4 (xb V L F R S ((upd (he_path P) ((1 : Int32)).toNatClampNeg ((rw_told (R ((1 : Int32)).toNatClampNeg)) (x4).toNatClampNeg)), (he_kept P), (he_firstKept P), (he_known P), (he_goal P), (he_plies P), (he_count P))), M, q)) (fun _ _ => rfl) ?_
    refine am_ev.call rfl rfl rfl ((s_Board_isLegal_B hc).mono (by decide)) ?_
    show am_ev _ k_HelpLines_walk (113, [.ref 144, .int (1 : Int32), .ref 132, .int x3, .int x4], [.int r5], (zl sn sx, xa xm T D r bg4 (xb V L F R S ((upd (he_path P) ((1 : Int32)).toNatClampNeg ((rw_told (R ((1 : Int32)).toNatClampNeg)) (x4).toNatClampNeg)), (he_kept P), (he_firstKept P), (he_known P), (he_goal P), (he_plies P), (he_count P))), M, q)) oo
    rcases am_if hM with ⟨c5, hM⟩ | ⟨c5, hM⟩
    · refine am_ev.kt 1 148 116 [.ref 144, .int (1 : Int32), .ref 132, .int x3, .int x4] [] (zl sn sx, xa xm T D r bg4 (xb V L F R S ((upd (he_path P) ((1 : Int32)).toNatClampNeg ((rw_told (R ((1 : Int32)).toNatClampNeg)) (x4).toNatClampNeg)), (he_kept P), (he_firstKept P), (he_known P), (he_goal P), (he_plies P), (he_count P))), M, q) c5 (fun _ _ => rfl) ?_
      exact sj_HelpLines_walk_p1_148 hx hg hM
    · refine am_ev.ke 1 148 116 [.ref 144, .int (1 : Int32), .ref 132, .int x3, .int x4] [] (zl sn sx, xa xm T D r bg4 (xb V L F R S ((upd (he_path P) ((1 : Int32)).toNatClampNeg ((rw_told (R ((1 : Int32)).toNatClampNeg)) (x4).toNatClampNeg)), (he_kept P), (he_firstKept P), (he_known P), (he_goal P), (he_plies P), (he_count P))), M, q) c5 (fun _ _ => rfl) ?_
      rcases am_if hM with ⟨c6, hM⟩ | ⟨c6, hM⟩
      · refine am_ev.kt 2 130 120 [.ref 144, .int (1 : Int32), .ref 132, .int x3, .int x4] [] (zl sn sx, xa xm T D r bg4 (xb V L F R S ((upd (he_path P) ((1 : Int32)).toNatClampNeg ((rw_told (R ((1 : Int32)).toNatClampNeg)) (x4).toNatClampNeg)), (he_kept P), (he_firstKept P), (he_known P), (he_goal P), (he_plies P), (he_count P))), M, q) c6 (fun _ _ => rfl) ?_
        obtain ⟨rr, hc, hM⟩ := am_bind hM
        obtain ⟨r6, bg7⟩ := rr
        refine am_ev.kg 4 (pc' := 138) (lv' := [.ref 144, .int (1 : Int32), .ref 132, .int x3, .int x4]) (st' := [.int (he_goal P), .ref 123]) (h' := (zl sn sx, xa xm T D r bg4 (xb V L F R S ((upd (he_path P) ((1 : Int32)).toNatClampNeg ((rw_told (R ((1 : Int32)).toNatClampNeg)) (x4).toNatClampNeg)), (he_kept P), (he_firstKept P), (he_known P), (he_goal P), (he_plies P), (he_count P))), M, q)) (fun _ _ => rfl) ?_
        refine am_ev.call rfl rfl rfl ((s_Mover_isBeaten hc).mono (by decide)) ?_
        show am_ev _ k_HelpLines_walk (141, [.ref 144, .int (1 : Int32), .ref 132, .int x3, .int x4], [.int r6], (zl sn sx, xa xm T D r bg7 (xb V L F R S ((upd (he_path P) ((1 : Int32)).toNatClampNeg ((rw_told (R ((1 : Int32)).toNatClampNeg)) (x4).toNatClampNeg)), (he_kept P), (he_firstKept P), (he_known P), (he_goal P), (he_plies P), (he_count P))), M, q)) oo
        rcases am_if hM with ⟨c7, hM⟩ | ⟨c7, hM⟩
        · refine am_ev.kt 1 148 144 [.ref 144, .int (1 : Int32), .ref 132, .int x3, .int x4] [] (zl sn sx, xa xm T D r bg7 (xb V L F R S ((upd (he_path P) ((1 : Int32)).toNatClampNeg ((rw_told (R ((1 : Int32)).toNatClampNeg)) (x4).toNatClampNeg)), (he_kept P), (he_firstKept P), (he_known P), (he_goal P), (he_plies P), (he_count P))), M, q) c7 (fun _ _ => rfl) ?_
          exact sj_HelpLines_walk_p1_148 hx hg hM
        · refine am_ev.ke 1 148 144 [.ref 144, .int (1 : Int32), .ref 132, .int x3, .int x4] [] (zl sn sx, xa xm T D r bg7 (xb V L F R S ((upd (he_path P) ((1 : Int32)).toNatClampNeg ((rw_told (R ((1 : Int32)).toNatClampNeg)) (x4).toNatClampNeg)), (he_kept P), (he_firstKept P), (he_known P), (he_goal P), (he_plies P), (he_count P))), M, q) c7 (fun _ _ => rfl) ?_
          obtain ⟨rr, hc, hM⟩ := am_bind hM
          obtain ⟨pg8, rfl⟩ : ∃ z, z = rr := ⟨_, rfl⟩
          refine am_ev.kg 1 (pc' := 145) (lv' := [.ref 144, .int (1 : Int32), .ref 132, .int x3, .int x4]) (st' := [.ref 144]) (h' := (zl sn sx, xa xm T D r bg7 (xb V L F R S ((upd (he_path P) ((1 : Int32)).toNatClampNeg ((rw_told (R ((1 : Int32)).toNatClampNeg)) (x4).toNatClampNeg)), (he_kept P), (he_firstKept P), (he_known P), (he_goal P), (he_plies P), (he_count P))), M, q)) (fun _ _ => rfl) ?_
          refine am_ev.call rfl rfl rfl ((s_HelpLines_keepPath hc).mono (by decide)) ?_
          show am_ev _ k_HelpLines_walk (148, [.ref 144, .int (1 : Int32), .ref 132, .int x3, .int x4], [], (zl sn sx, xa xm T D r bg7 (xb V L F R S pg8), M, q)) oo
          exact sj_HelpLines_walk_p1_148 hx hg hM
      · refine am_ev.ke 2 130 120 [.ref 144, .int (1 : Int32), .ref 132, .int x3, .int x4] [] (zl sn sx, xa xm T D r bg4 (xb V L F R S ((upd (he_path P) ((1 : Int32)).toNatClampNeg ((rw_told (R ((1 : Int32)).toNatClampNeg)) (x4).toNatClampNeg)), (he_kept P), (he_firstKept P), (he_known P), (he_goal P), (he_plies P), (he_count P))), M, q) c6 (fun _ _ => rfl) ?_
        obtain ⟨rr, hc, hM⟩ := am_bind hM
        obtain ⟨bg9, vg10, rg11, pg12⟩ := rr
        refine am_ev.kg 4 (pc' := 124) (lv' := [.ref 144, .int (1 : Int32), .ref 132, .int x3, .int x4]) (st' := [.int ((1 : Int32) + (1 : Int32)), .ref 144]) (h' := (zl sn sx, xa xm T D r bg4 (xb V L F R S ((upd (he_path P) ((1 : Int32)).toNatClampNeg ((rw_told (R ((1 : Int32)).toNatClampNeg)) (x4).toNatClampNeg)), (he_kept P), (he_firstKept P), (he_known P), (he_goal P), (he_plies P), (he_count P))), M, q)) (fun _ _ => rfl) ?_
        refine am_ev.call rfl rfl rfl ((s_HelpLines_walk_p2 hc).mono (by decide)) ?_
        show am_ev _ k_HelpLines_walk (127, [.ref 144, .int (1 : Int32), .ref 132, .int x3, .int x4], [], (zl sn sx, xa xm T D r bg9 (xb vg10 L F rg11 S pg12), M, q)) oo
        refine am_ev.kg 1 (pc' := 148) (lv' := [.ref 144, .int (1 : Int32), .ref 132, .int x3, .int x4]) (st' := []) (h' := (zl sn sx, xa xm T D r bg9 (xb vg10 L F rg11 S pg12), M, q)) (fun _ _ => rfl) ?_
        exact sj_HelpLines_walk_p1_148 hx hg hM
theorem sl_HelpLines_walk_p1_70 {fu : Nat} {dd : Nat} {sn : Nat} {sx : Nat → Int32} {M : List am_C} {q : Nat × Nat} {T : TxT} {D : BdT} {r : RdT} {L : RwT} {F : RwT} {S : SoT} {x3 : Int32} {oo : am_O} {e : BdT × MvT × (Nat → RwT) × HeT} (hx : x_HelpLines_walk_p1_70 sn sx M q T D r L F S x3 oo e) : ∀ (n : Nat) (x4 : Int32) (B : BdT) (V : MvT) (R : Nat → RwT) (P : HeT), l_HelpLines_walk_70 fu (g_HelpLines fu dd) (1 : Int32) x3 n x4 B V R P = some e → am_ev 8 k_HelpLines_walk (70, [.ref 144, .int (1 : Int32), .ref 132, .int x3, .int x4], [], (zl sn sx, xa xm T D r B (xb V L F R S P), M, q)) oo
  | 0, _, _, _, _, _, hM => by have h : (none : Option (BdT × MvT × (Nat → RwT) × HeT)) = some e := hM; cases h
  | n + 1, _, _, _, _, _, hM => sb_HelpLines_walk_p1_70 hx (fun _ _ _ _ _ hM => sl_HelpLines_walk_p1_70 hx n _ _ _ _ _ hM) hM
theorem sj_HelpLines_walk_p1_67 {fu : Nat} {dd : Nat} {sn : Nat} {sx : Nat → Int32} {M : List am_C} {q : Nat × Nat} {T : TxT} {D : BdT} {r : RdT} {B : BdT} {V : MvT} {L : RwT} {F : RwT} {R : Nat → RwT} {S : SoT} {P : HeT} {x3 : Int32} {oo : am_O} {e : BdT × MvT × (Nat → RwT) × HeT} (hx : y_HelpLines_walk_p1 sn sx M q T D r L F S oo e) (hM : j_HelpLines_walk_67 fu (g_HelpLines fu dd) B V R P (1 : Int32) x3 = some e) : am_ev 8 k_HelpLines_walk (67, [.ref 144, .int (1 : Int32), .ref 132, .int x3, am_ju], [], (zl sn sx, xa xm T D r B (xb V L F R S P), M, q)) oo := by
  unfold j_HelpLines_walk_67 at hM
  refine am_ev.kg 2 (pc' := 70) (lv' := [.ref 144, .int (1 : Int32), .ref 132, .int x3, .int (0 : Int32)]) (st' := []) (h' := (zl sn sx, xa xm T D r B (xb V L F R S P), M, q)) (fun _ _ => rfl) ?_
  obtain ⟨oB, oV, oR, oP⟩ := e
  refine sl_HelpLines_walk_p1_70 ?_ _ _ _ _ _ _ hM
  exact hx
theorem sj_HelpLines_walk_p1_59 {fu : Nat} {dd : Nat} {sn : Nat} {sx : Nat → Int32} {M : List am_C} {q : Nat × Nat} {T : TxT} {D : BdT} {r : RdT} {B : BdT} {V : MvT} {L : RwT} {F : RwT} {R : Nat → RwT} {S : SoT} {P : HeT} {x3 : Int32} {oo : am_O} {e : BdT × MvT × (Nat → RwT) × HeT} (hx : y_HelpLines_walk_p1 sn sx M q T D r L F S oo e) (hM : j_HelpLines_walk_59 fu (g_HelpLines fu dd) B V R P (1 : Int32) x3 = some e) : am_ev 8 k_HelpLines_walk (59, [.ref 144, .int (1 : Int32), .ref 132, .int x3, am_ju], [], (zl sn sx, xa xm T D r B (xb V L F R S P), M, q)) oo := by
  unfold j_HelpLines_walk_59 at hM
  obtain ⟨rr, hc, hM⟩ := am_bind hM
  obtain ⟨wg3, rfl⟩ : ∃ z, z = rr := ⟨_, rfl⟩
  refine am_ev.kg 3 (pc' := 64) (lv' := [.ref 144, .int (1 : Int32), .ref 132, .int x3, am_ju]) (st' := [.ref 132, .ref 123]) (h' := (zl sn sx, xa xm T D r B (xb V L F R S P), M, q)) (fun _ _ => rfl) ?_
  refine am_ev.call rfl rfl rfl ((s_Mover_fill_R1x hc).mono (by decide)) ?_
  show am_ev _ k_HelpLines_walk (67, [.ref 144, .int (1 : Int32), .ref 132, .int x3, am_ju], [], (zl sn sx, xa xm T D r B (xb V L F (va_up R ((1 : Int32)).toNatClampNeg wg3) S P), M, q)) oo
  exact sj_HelpLines_walk_p1_67 hx hM
theorem sj_HelpLines_walk_p1_36 {fu : Nat} {dd : Nat} {sn : Nat} {sx : Nat → Int32} {M : List am_C} {q : Nat × Nat} {T : TxT} {D : BdT} {r : RdT} {B : BdT} {V : MvT} {L : RwT} {F : RwT} {R : Nat → RwT} {S : SoT} {P : HeT} {s0 : Int32} {oo : am_O} {e : BdT × MvT × (Nat → RwT) × HeT} (hx : y_HelpLines_walk_p1 sn sx M q T D r L F S oo e) (hM : j_HelpLines_walk_36 fu (g_HelpLines fu dd) B V R P (1 : Int32) s0 = some e) : am_ev 8 k_HelpLines_walk (36, [.ref 144, .int (1 : Int32), .ref 132, am_ju, am_ju], [.int s0], (zl sn sx, xa xm T D r B (xb V L F R S P), M, q)) oo := by
  unfold j_HelpLines_walk_36 at hM
  rcases am_if hM with ⟨c8, hM⟩ | ⟨c8, hM⟩
  · refine am_ev.kt 3 59 41 [.ref 144, .int (1 : Int32), .ref 132, .int s0, am_ju] [] (zl sn sx, xa xm T D r B (xb V L F R S P), M, q) c8 (fun _ _ => rfl) ?_
    exact sj_HelpLines_walk_p1_59 hx hM
  · refine am_ev.ke 3 59 41 [.ref 144, .int (1 : Int32), .ref 132, .int s0, am_ju] [] (zl sn sx, xa xm T D r B (xb V L F R S P), M, q) c8 (fun _ _ => rfl) ?_
    rcases am_if hM with ⟨c9, hM⟩ | ⟨c9, hM⟩
    · refine am_ev.kt 3 59 48 [.ref 144, .int (1 : Int32), .ref 132, .int s0, am_ju] [] (zl sn sx, xa xm T D r B (xb V L F R S P), M, q) c9 (fun _ _ => rfl) ?_
      exact sj_HelpLines_walk_p1_59 hx hM
    · refine am_ev.ke 3 59 48 [.ref 144, .int (1 : Int32), .ref 132, .int s0, am_ju] [] (zl sn sx, xa xm T D r B (xb V L F R S P), M, q) c9 (fun _ _ => rfl) ?_
      obtain ⟨rr, hc, hM⟩ := am_bind hM
      obtain ⟨wg1, vg2⟩ := rr
      refine am_ev.kg 3 (pc' := 53) (lv' := [.ref 144, .int (1 : Int32), .ref 132, .int s0, am_ju]) (st' := [.ref 132, .ref 123]) (h' := (zl sn sx, xa xm T D r B (xb V L F R S P), M, q)) (fun _ _ => rfl) ?_
      refine am_ev.call rfl rfl rfl ((s_Mover_fillChecks_R1x hc).mono (by decide)) ?_
      show am_ev _ k_HelpLines_walk (56, [.ref 144, .int (1 : Int32), .ref 132, .int s0, am_ju], [], (zl sn sx, xa xm T D r B (xb vg2 L F (va_up R ((1 : Int32)).toNatClampNeg wg1) S P), M, q)) oo
      refine am_ev.kg 1 (pc' := 67) (lv' := [.ref 144, .int (1 : Int32), .ref 132, .int s0, am_ju]) (st' := []) (h' := (zl sn sx, xa xm T D r B (xb vg2 L F (va_up R ((1 : Int32)).toNatClampNeg wg1) S P), M, q)) (fun _ _ => rfl) ?_
      exact sj_HelpLines_walk_p1_67 hx hM
theorem se_HelpLines_walk_p1 {fu : Nat} {dd : Nat} {sn : Nat} {sx : Nat → Int32} {M : List am_C} {q : Nat × Nat} {T : TxT} {D : BdT} {r : RdT} {B : BdT} {V : MvT} {L : RwT} {F : RwT} {R : Nat → RwT} {S : SoT} {P : HeT} {oo : am_O} {e : BdT × MvT × (Nat → RwT) × HeT} (hx : y_HelpLines_walk_p1 sn sx M q T D r L F S oo e) (hM : e_HelpLines_walk fu (g_HelpLines fu dd) (1 : Int32) B V R P = some e) : am_ev 8 k_HelpLines_walk (0, [.ref 144, .int (1 : Int32), am_ju, am_ju, am_ju], [], (zl sn sx, xa xm T D r B (xb V L F R S P), M, q)) oo := by
  unfold e_HelpLines_walk at hM
  rcases am_if hM with ⟨c10, hM⟩ | ⟨c10, hM⟩
  · refine am_ev.kt 4 13 8 [.ref 144, .int (1 : Int32), am_ju, am_ju, am_ju] [] (zl sn sx, xa xm T D r B (xb V L F R S P), M, q) c10 (fun _ _ => rfl) ?_
    cases hM
    cases hx
    exact am_ev.kf 1 (fun _ _ => rfl)
  · refine am_ev.ke 4 13 8 [.ref 144, .int (1 : Int32), am_ju, am_ju, am_ju] [] (zl sn sx, xa xm T D r B (xb V L F R S P), M, q) c10 (fun _ _ => rfl) ?_
    rcases am_if hM with ⟨c11, hM⟩ | ⟨c11, hM⟩
    · refine am_ev.kt 3 14 13 [.ref 144, .int (1 : Int32), am_ju, am_ju, am_ju] [] (zl sn sx, xa xm T D r B (xb V L F R S P), M, q) c11 (fun _ _ => rfl) ?_
      obtain ⟨c12, hM⟩ := am_ifn hM
      refine am_ev.kc 4 20 [.ref 144, .int (1 : Int32), am_ju, am_ju, am_ju] [.ref 132] (zl sn sx, xa xm T D r B (xb V L F R S P), M, q) c12 (fun _ _ => rfl) ?_
      rcases am_if hM with ⟨c13, hM⟩ | ⟨c13, hM⟩
      · refine am_ev.kt 7 35 31 [.ref 144, .int (1 : Int32), .ref 132, am_ju, am_ju] [] (zl sn sx, xa xm T D r B (xb V L F R S P), M, q) c13 (fun _ _ => rfl) ?_
        refine am_ev.kg 1 (pc' := 36) (lv' := [.ref 144, .int (1 : Int32), .ref 132, am_ju, am_ju]) (st' := [.int (0 : Int32)]) (h' := (zl sn sx, xa xm T D r B (xb V L F R S P), M, q)) (fun _ _ => rfl) ?_
        exact sj_HelpLines_walk_p1_36 hx hM
      · refine am_ev.ke 7 35 31 [.ref 144, .int (1 : Int32), .ref 132, am_ju, am_ju] [] (zl sn sx, xa xm T D r B (xb V L F R S P), M, q) c13 (fun _ _ => rfl) ?_
        refine am_ev.kg 2 (pc' := 36) (lv' := [.ref 144, .int (1 : Int32), .ref 132, am_ju, am_ju]) (st' := [.int (1 : Int32)]) (h' := (zl sn sx, xa xm T D r B (xb V L F R S P), M, q)) (fun _ _ => rfl) ?_
        exact sj_HelpLines_walk_p1_36 hx hM
    · exact absurd c11 (by decide)
theorem s_HelpLines_walk_p1 {fu : Nat} {dd : Nat} {sn : Nat} {sx : Nat → Int32} {M : List am_C} {q : Nat × Nat} {T : TxT} {D : BdT} {r : RdT} {B : BdT} {V : MvT} {L : RwT} {F : RwT} {R : Nat → RwT} {S : SoT} {P : HeT} {oB : BdT} {oV : MvT} {oR : Nat → RwT} {oP : HeT} (hM : (g_HelpLines fu dd) (1 : Int32) B V R P = some (oB, oV, oR, oP)) : am_cv 9 k_HelpLines_walk [.ref 144, .int (1 : Int32)] (zl sn sx, xa xm T D r B (xb V L F R S P), M, q) (.inl none, (zl sn sx, xa xm T D r oB (xb oV L F oR S oP), M, q)) := by
  cases dd with
  | zero => have h : (none : Option (BdT × MvT × (Nat → RwT) × HeT)) = some (oB, oV, oR, oP) := hM; cases h
  | succ dd => exact am_cv.of rfl (se_HelpLines_walk_p1 (e := (oB, oV, oR, oP)) (show y_HelpLines_walk_p1 sn sx M q T D r L F S _ (oB, oV, oR, oP) from rfl) (show e_HelpLines_walk fu (g_HelpLines fu dd) (1 : Int32) B V R P = some (oB, oV, oR, oP) from hM))
def y_HelpLines_walk_p0 (sn : Nat) (sx : Nat → Int32) (M : List am_C) (q : Nat × Nat) (T : TxT) (D : BdT) (r : RdT) (L : RwT) (F : RwT) (S : SoT) (oo : am_O) : BdT × MvT × (Nat → RwT) × HeT → Prop
  | (oB, oV, oR, oP) => oo = (.inl none, (zl sn sx, xa xm T D r oB (xb oV L F oR S oP), M, q))
def x_HelpLines_walk_p0_70 (sn : Nat) (sx : Nat → Int32) (M : List am_C) (q : Nat × Nat) (T : TxT) (D : BdT) (r : RdT) (L : RwT) (F : RwT) (S : SoT) (x3 : Int32) (oo : am_O) : BdT × MvT × (Nat → RwT) × HeT → Prop
  | (oB, oV, oR, oP) => oo = (.inl none, (zl sn sx, xa xm T D r oB (xb oV L F oR S oP), M, q))
theorem sj_HelpLines_walk_p0_148 {fu : Nat} {dd : Nat} {sn : Nat} {sx : Nat → Int32} {M : List am_C} {q : Nat × Nat} {T : TxT} {D : BdT} {r : RdT} {B : BdT} {V : MvT} {L : RwT} {F : RwT} {R : Nat → RwT} {S : SoT} {P : HeT} {x3 : Int32} {x4 : Int32} {oo : am_O} {e : BdT × MvT × (Nat → RwT) × HeT} {gg : Int32 → BdT → MvT → (Nat → RwT) → HeT → Option (BdT × MvT × (Nat → RwT) × HeT)} (hx : x_HelpLines_walk_p0_70 sn sx M q T D r L F S x3 oo e) (hg : ∀ (x4 : Int32) (B : BdT) (V : MvT) (R : Nat → RwT) (P : HeT), gg x4 B V R P = some e → am_ev 9 k_HelpLines_walk (70, [.ref 144, .int (0 : Int32), .ref 130, .int x3, .int x4], [], (zl sn sx, xa xm T D r B (xb V L F R S P), M, q)) oo) (hM : j_HelpLines_walk_148 fu (g_HelpLines fu dd) gg B V R P (0 : Int32) x3 x4 = some e) : am_ev 9 k_HelpLines_walk (148, [.ref 144, .int (0 : Int32), .ref 130, .int x3, .int x4], [], (zl sn sx, xa xm T D r B (xb V L F R S P), M, q)) oo := by
  unfold j_HelpLines_walk_148 at hM
  obtain ⟨rr, hc, hM⟩ := am_bind hM
  obtain ⟨bg13, rfl⟩ : ∃ z, z = rr := ⟨_, rfl⟩
  refine am_ev.kg 2 (pc' := 152) (lv' := [.ref 144, .int (0 : Int32), .ref 130, .int x3, .int x4]) (st' := [.ref 114]) (h' := (zl sn sx, xa xm T D r B (xb V L F R S P), M, q)) (fun _ _ => rfl) ?_
  refine am_ev.call rfl rfl rfl ((s_Board_unmake_B hc).mono (by decide)) ?_
  show am_ev _ k_HelpLines_walk (155, [.ref 144, .int (0 : Int32), .ref 130, .int x3, .int x4], [], (zl sn sx, xa xm T D r bg13 (xb V L F R S P), M, q)) oo
  refine am_ev.kg 2 (pc' := 70) (lv' := [.ref 144, .int (0 : Int32), .ref 130, .int x3, .int (x4 + (1 : Int32))]) (st' := []) (h' := (zl sn sx, xa xm T D r bg13 (xb V L F R S P), M, q)) (fun _ _ => rfl) ?_
  exact hg _ _ _ _ _ hM
theorem sb_HelpLines_walk_p0_70 {fu : Nat} {dd : Nat} {sn : Nat} {sx : Nat → Int32} {M : List am_C} {q : Nat × Nat} {T : TxT} {D : BdT} {r : RdT} {L : RwT} {F : RwT} {S : SoT} {x3 : Int32} {oo : am_O} {e : BdT × MvT × (Nat → RwT) × HeT} {gg : Int32 → BdT → MvT → (Nat → RwT) → HeT → Option (BdT × MvT × (Nat → RwT) × HeT)} (hx : x_HelpLines_walk_p0_70 sn sx M q T D r L F S x3 oo e) (hg : ∀ (x4 : Int32) (B : BdT) (V : MvT) (R : Nat → RwT) (P : HeT), gg x4 B V R P = some e → am_ev 9 k_HelpLines_walk (70, [.ref 144, .int (0 : Int32), .ref 130, .int x3, .int x4], [], (zl sn sx, xa xm T D r B (xb V L F R S P), M, q)) oo) {x4 : Int32} {B : BdT} {V : MvT} {R : Nat → RwT} {P : HeT} (hM : b_HelpLines_walk_70 fu (g_HelpLines fu dd) (0 : Int32) x3 gg x4 B V R P = some e) : am_ev 9 k_HelpLines_walk (70, [.ref 144, .int (0 : Int32), .ref 130, .int x3, .int x4], [], (zl sn sx, xa xm T D r B (xb V L F R S P), M, q)) oo := by
  unfold b_HelpLines_walk_70 at hM
  rcases am_if hM with ⟨c1, hM⟩ | ⟨c1, hM⟩
  · refine am_ev.kt 4 161 79 [.ref 144, .int (0 : Int32), .ref 130, .int x3, .int x4] [] (zl sn sx, xa xm T D r B (xb V L F R S P), M, q) c1 (fun _ _ => rfl) ?_
    cases hM
    cases hx
    exact am_ev.kf 1 (fun _ _ => rfl)
  · refine am_ev.ke 4 161 79 [.ref 144, .int (0 : Int32), .ref 130, .int x3, .int x4] [] (zl sn sx, xa xm T D r B (xb V L F R S P), M, q) c1 (fun _ _ => rfl) ?_
    obtain ⟨c2, hM⟩ := am_ifn hM
    refine am_ev.kc 7 91 [.ref 144, .int (0 : Int32), .ref 130, .int x3, .int x4] [.int ((rw_told (R ((0 : Int32)).toNatClampNeg)) (x4).toNatClampNeg), .int (0 : Int32), .ref 145] (zl sn sx, xa xm T D r B (xb V L F R S P), M, q) c2 (fun _ _ => rfl) ?_
    obtain ⟨c3, hM⟩ := am_ifn hM
    refine am_ev.kc 1 92 [.ref 144, .int (0 : Int32), .ref 130, .int x3, .int x4] [] (zl sn sx, xa xm T D r B (xb V L F R S ((upd (he_path P) ((0 : Int32)).toNatClampNeg ((rw_told (R ((0 : Int32)).toNatClampNeg)) (x4).toNatClampNeg)), (he_kept P), (he_firstKept P), (he_known P), (he_goal P), (he_plies P), (he_count P))), M, q) c3 (fun _ _ => rfl) ?_
    obtain ⟨c4, hM⟩ := am_ifn hM
    refine am_ev.kc 6 103 [.ref 144, .int (0 : Int32), .ref 130, .int x3, .int x4] [.int ((rw_told (R ((0 : Int32)).toNatClampNeg)) (x4).toNatClampNeg), .ref 114] (zl sn sx, xa xm T D r B (xb V L F R S ((upd (he_path P) ((0 : Int32)).toNatClampNeg ((rw_told (R ((0 : Int32)).toNatClampNeg)) (x4).toNatClampNeg)), (he_kept P), (he_firstKept P), (he_known P), (he_goal P), (he_plies P), (he_count P))), M, q) c4 (fun _ _ => rfl) ?_
    obtain ⟨rr, hc, hM⟩ := am_bind hM
    obtain ⟨bg4, rfl⟩ : ∃ z, z = rr := ⟨_, rfl⟩
    refine am_ev.call rfl rfl rfl ((s_Board_make_B hc).mono (by decide)) ?_
    show am_ev _ k_HelpLines_walk (106, [.ref 144, .int (0 : Int32), .ref 130, .int x3, .int x4], [], (zl sn sx, xa xm T D r bg4 (xb V L F R S ((upd (he_path P) ((0 : Int32)).toNatClampNeg ((rw_told (R ((0 : Int32)).toNatClampNeg)) (x4).toNatClampNeg)), (he_kept P), (he_firstKept P), (he_known P), (he_goal P), (he_plies P), (he_count P))), M, q)) oo
    obtain ⟨rr, hc, hM⟩ := am_bind hM
    obtain ⟨r5, rfl⟩ : ∃ z, z = rr := ⟨_, rfl⟩
    refine am_ev.kg 2 (pc' := 110) (lv' := [.ref 144, .int (0 : Int32), .ref 130, .int x3, .int x4]) (st' := [.ref 114]) (h' := (zl sn sx, xa xm T D r bg4 (xb V L F R S ((upd (he_path P) ((0 : Int32)).toNatClampNeg ((rw_told (R ((0 : Int32)).toNatClampNeg)) (x4).toNatClampNeg)), (he_kept P), (he_firstKept P), (he_known P), (he_goal P), (he_plies P), (he_count P))), M, q)) (fun _ _ => rfl) ?_
    refine am_ev.call rfl rfl rfl ((s_Board_isLegal_B hc).mono (by decide)) ?_
    show am_ev _ k_HelpLines_walk (113, [.ref 144, .int (0 : Int32), .ref 130, .int x3, .int x4], [.int r5], (zl sn sx, xa xm T D r bg4 (xb V L F R S ((upd (he_path P) ((0 : Int32)).toNatClampNeg ((rw_told (R ((0 : Int32)).toNatClampNeg)) (x4).toNatClampNeg)), (he_kept P), (he_firstKept P), (he_known P), (he_goal P), (he_plies P), (he_count P))), M, q)) oo
    rcases am_if hM with ⟨c5, hM⟩ | ⟨c5, hM⟩
    · refine am_ev.kt 1 148 116 [.ref 144, .int (0 : Int32), .ref 130, .int x3, .int x4] [] (zl sn sx, xa xm T D r bg4 (xb V L F R S ((upd (he_path P) ((0 : Int32)).toNatClampNeg ((rw_told (R ((0 : Int32)).toNatClampNeg)) (x4).toNatClampNeg)), (he_kept P), (he_firstKept P), (he_known P), (he_goal P), (he_plies P), (he_count P))), M, q) c5 (fun _ _ => rfl) ?_
      exact sj_HelpLines_walk_p0_148 hx hg hM
    · refine am_ev.ke 1 148 116 [.ref 144, .int (0 : Int32), .ref 130, .int x3, .int x4] [] (zl sn sx, xa xm T D r bg4 (xb V L F R S ((upd (he_path P) ((0 : Int32)).toNatClampNeg ((rw_told (R ((0 : Int32)).toNatClampNeg)) (x4).toNatClampNeg)), (he_kept P), (he_firstKept P), (he_known P), (he_goal P), (he_plies P), (he_count P))), M, q) c5 (fun _ _ => rfl) ?_
      rcases am_if hM with ⟨c6, hM⟩ | ⟨c6, hM⟩
      · refine am_ev.kt 2 130 120 [.ref 144, .int (0 : Int32), .ref 130, .int x3, .int x4] [] (zl sn sx, xa xm T D r bg4 (xb V L F R S ((upd (he_path P) ((0 : Int32)).toNatClampNeg ((rw_told (R ((0 : Int32)).toNatClampNeg)) (x4).toNatClampNeg)), (he_kept P), (he_firstKept P), (he_known P), (he_goal P), (he_plies P), (he_count P))), M, q) c6 (fun _ _ => rfl) ?_
        obtain ⟨rr, hc, hM⟩ := am_bind hM
        obtain ⟨r6, bg7⟩ := rr
        refine am_ev.kg 4 (pc' := 138) (lv' := [.ref 144, .int (0 : Int32), .ref 130, .int x3, .int x4]) (st' := [.int (he_goal P), .ref 123]) (h' := (zl sn sx, xa xm T D r bg4 (xb V L F R S ((upd (he_path P) ((0 : Int32)).toNatClampNeg ((rw_told (R ((0 : Int32)).toNatClampNeg)) (x4).toNatClampNeg)), (he_kept P), (he_firstKept P), (he_known P), (he_goal P), (he_plies P), (he_count P))), M, q)) (fun _ _ => rfl) ?_
        refine am_ev.call rfl rfl rfl ((s_Mover_isBeaten hc).mono (by decide)) ?_
        show am_ev _ k_HelpLines_walk (141, [.ref 144, .int (0 : Int32), .ref 130, .int x3, .int x4], [.int r6], (zl sn sx, xa xm T D r bg7 (xb V L F R S ((upd (he_path P) ((0 : Int32)).toNatClampNeg ((rw_told (R ((0 : Int32)).toNatClampNeg)) (x4).toNatClampNeg)), (he_kept P), (he_firstKept P), (he_known P), (he_goal P), (he_plies P), (he_count P))), M, q)) oo
        rcases am_if hM with ⟨c7, hM⟩ | ⟨c7, hM⟩
        · refine am_ev.kt 1 148 144 [.ref 144, .int (0 : Int32), .ref 130, .int x3, .int x4] [] (zl sn sx, xa xm T D r bg7 (xb V L F R S ((upd (he_path P) ((0 : Int32)).toNatClampNeg ((rw_told (R ((0 : Int32)).toNatClampNeg)) (x4).toNatClampNeg)), (he_kept P), (he_firstKept P), (he_known P), (he_goal P), (he_plies P), (he_count P))), M, q) c7 (fun _ _ => rfl) ?_
          exact sj_HelpLines_walk_p0_148 hx hg hM
        · refine am_ev.ke 1 148 144 [.ref 144, .int (0 : Int32), .ref 130, .int x3, .int x4] [] (zl sn sx, xa xm T D r bg7 (xb V L F R S ((upd (he_path P) ((0 : Int32)).toNatClampNeg ((rw_told (R ((0 : Int32)).toNatClampNeg)) (x4).toNatClampNeg)), (he_kept P), (he_firstKept P), (he_known P), (he_goal P), (he_plies P), (he_count P))), M, q) c7 (fun _ _ => rfl) ?_
          obtain ⟨rr, hc, hM⟩ := am_bind hM
          obtain ⟨pg8, rfl⟩ : ∃ z, z = rr := ⟨_, rfl⟩
          refine am_ev.kg 1 (pc' := 145) (lv' := [.ref 144, .int (0 : Int32), .ref 130, .int x3, .int x4]) (st' := [.ref 144]) (h' := (zl sn sx, xa xm T D r bg7 (xb V L F R S ((upd (he_path P) ((0 : Int32)).toNatClampNeg ((rw_told (R ((0 : Int32)).toNatClampNeg)) (x4).toNatClampNeg)), (he_kept P), (he_firstKept P), (he_known P), (he_goal P), (he_plies P), (he_count P))), M, q)) (fun _ _ => rfl) ?_
          refine am_ev.call rfl rfl rfl ((s_HelpLines_keepPath hc).mono (by decide)) ?_
          show am_ev _ k_HelpLines_walk (148, [.ref 144, .int (0 : Int32), .ref 130, .int x3, .int x4], [], (zl sn sx, xa xm T D r bg7 (xb V L F R S pg8), M, q)) oo
          exact sj_HelpLines_walk_p0_148 hx hg hM
      · refine am_ev.ke 2 130 120 [.ref 144, .int (0 : Int32), .ref 130, .int x3, .int x4] [] (zl sn sx, xa xm T D r bg4 (xb V L F R S ((upd (he_path P) ((0 : Int32)).toNatClampNeg ((rw_told (R ((0 : Int32)).toNatClampNeg)) (x4).toNatClampNeg)), (he_kept P), (he_firstKept P), (he_known P), (he_goal P), (he_plies P), (he_count P))), M, q) c6 (fun _ _ => rfl) ?_
        obtain ⟨rr, hc, hM⟩ := am_bind hM
        obtain ⟨bg9, vg10, rg11, pg12⟩ := rr
        refine am_ev.kg 4 (pc' := 124) (lv' := [.ref 144, .int (0 : Int32), .ref 130, .int x3, .int x4]) (st' := [.int ((0 : Int32) + (1 : Int32)), .ref 144]) (h' := (zl sn sx, xa xm T D r bg4 (xb V L F R S ((upd (he_path P) ((0 : Int32)).toNatClampNeg ((rw_told (R ((0 : Int32)).toNatClampNeg)) (x4).toNatClampNeg)), (he_kept P), (he_firstKept P), (he_known P), (he_goal P), (he_plies P), (he_count P))), M, q)) (fun _ _ => rfl) ?_
        refine am_ev.call rfl rfl rfl ((s_HelpLines_walk_p1 hc).mono (by decide)) ?_
        show am_ev _ k_HelpLines_walk (127, [.ref 144, .int (0 : Int32), .ref 130, .int x3, .int x4], [], (zl sn sx, xa xm T D r bg9 (xb vg10 L F rg11 S pg12), M, q)) oo
        refine am_ev.kg 1 (pc' := 148) (lv' := [.ref 144, .int (0 : Int32), .ref 130, .int x3, .int x4]) (st' := []) (h' := (zl sn sx, xa xm T D r bg9 (xb vg10 L F rg11 S pg12), M, q)) (fun _ _ => rfl) ?_
        exact sj_HelpLines_walk_p0_148 hx hg hM
theorem sl_HelpLines_walk_p0_70 {fu : Nat} {dd : Nat} {sn : Nat} {sx : Nat → Int32} {M : List am_C} {q : Nat × Nat} {T : TxT} {D : BdT} {r : RdT} {L : RwT} {F : RwT} {S : SoT} {x3 : Int32} {oo : am_O} {e : BdT × MvT × (Nat → RwT) × HeT} (hx : x_HelpLines_walk_p0_70 sn sx M q T D r L F S x3 oo e) : ∀ (n : Nat) (x4 : Int32) (B : BdT) (V : MvT) (R : Nat → RwT) (P : HeT), l_HelpLines_walk_70 fu (g_HelpLines fu dd) (0 : Int32) x3 n x4 B V R P = some e → am_ev 9 k_HelpLines_walk (70, [.ref 144, .int (0 : Int32), .ref 130, .int x3, .int x4], [], (zl sn sx, xa xm T D r B (xb V L F R S P), M, q)) oo
  | 0, _, _, _, _, _, hM => by have h : (none : Option (BdT × MvT × (Nat → RwT) × HeT)) = some e := hM; cases h
  | n + 1, _, _, _, _, _, hM => sb_HelpLines_walk_p0_70 hx (fun _ _ _ _ _ hM => sl_HelpLines_walk_p0_70 hx n _ _ _ _ _ hM) hM
theorem sj_HelpLines_walk_p0_67 {fu : Nat} {dd : Nat} {sn : Nat} {sx : Nat → Int32} {M : List am_C} {q : Nat × Nat} {T : TxT} {D : BdT} {r : RdT} {B : BdT} {V : MvT} {L : RwT} {F : RwT} {R : Nat → RwT} {S : SoT} {P : HeT} {x3 : Int32} {oo : am_O} {e : BdT × MvT × (Nat → RwT) × HeT} (hx : y_HelpLines_walk_p0 sn sx M q T D r L F S oo e) (hM : j_HelpLines_walk_67 fu (g_HelpLines fu dd) B V R P (0 : Int32) x3 = some e) : am_ev 9 k_HelpLines_walk (67, [.ref 144, .int (0 : Int32), .ref 130, .int x3, am_ju], [], (zl sn sx, xa xm T D r B (xb V L F R S P), M, q)) oo := by
  unfold j_HelpLines_walk_67 at hM
  refine am_ev.kg 2 (pc' := 70) (lv' := [.ref 144, .int (0 : Int32), .ref 130, .int x3, .int (0 : Int32)]) (st' := []) (h' := (zl sn sx, xa xm T D r B (xb V L F R S P), M, q)) (fun _ _ => rfl) ?_
  obtain ⟨oB, oV, oR, oP⟩ := e
  refine sl_HelpLines_walk_p0_70 ?_ _ _ _ _ _ _ hM
  exact hx
theorem sj_HelpLines_walk_p0_59 {fu : Nat} {dd : Nat} {sn : Nat} {sx : Nat → Int32} {M : List am_C} {q : Nat × Nat} {T : TxT} {D : BdT} {r : RdT} {B : BdT} {V : MvT} {L : RwT} {F : RwT} {R : Nat → RwT} {S : SoT} {P : HeT} {x3 : Int32} {oo : am_O} {e : BdT × MvT × (Nat → RwT) × HeT} (hx : y_HelpLines_walk_p0 sn sx M q T D r L F S oo e) (hM : j_HelpLines_walk_59 fu (g_HelpLines fu dd) B V R P (0 : Int32) x3 = some e) : am_ev 9 k_HelpLines_walk (59, [.ref 144, .int (0 : Int32), .ref 130, .int x3, am_ju], [], (zl sn sx, xa xm T D r B (xb V L F R S P), M, q)) oo := by
  unfold j_HelpLines_walk_59 at hM
  obtain ⟨rr, hc, hM⟩ := am_bind hM
  obtain ⟨wg3, rfl⟩ : ∃ z, z = rr := ⟨_, rfl⟩
  refine am_ev.kg 3 (pc' := 64) (lv' := [.ref 144, .int (0 : Int32), .ref 130, .int x3, am_ju]) (st' := [.ref 130, .ref 123]) (h' := (zl sn sx, xa xm T D r B (xb V L F R S P), M, q)) (fun _ _ => rfl) ?_
  refine am_ev.call rfl rfl rfl ((s_Mover_fill_R0x hc).mono (by decide)) ?_
  show am_ev _ k_HelpLines_walk (67, [.ref 144, .int (0 : Int32), .ref 130, .int x3, am_ju], [], (zl sn sx, xa xm T D r B (xb V L F (va_up R ((0 : Int32)).toNatClampNeg wg3) S P), M, q)) oo
  exact sj_HelpLines_walk_p0_67 hx hM
theorem sj_HelpLines_walk_p0_36 {fu : Nat} {dd : Nat} {sn : Nat} {sx : Nat → Int32} {M : List am_C} {q : Nat × Nat} {T : TxT} {D : BdT} {r : RdT} {B : BdT} {V : MvT} {L : RwT} {F : RwT} {R : Nat → RwT} {S : SoT} {P : HeT} {s0 : Int32} {oo : am_O} {e : BdT × MvT × (Nat → RwT) × HeT} (hx : y_HelpLines_walk_p0 sn sx M q T D r L F S oo e) (hM : j_HelpLines_walk_36 fu (g_HelpLines fu dd) B V R P (0 : Int32) s0 = some e) : am_ev 9 k_HelpLines_walk (36, [.ref 144, .int (0 : Int32), .ref 130, am_ju, am_ju], [.int s0], (zl sn sx, xa xm T D r B (xb V L F R S P), M, q)) oo := by
  unfold j_HelpLines_walk_36 at hM
  rcases am_if hM with ⟨c8, hM⟩ | ⟨c8, hM⟩
  · refine am_ev.kt 3 59 41 [.ref 144, .int (0 : Int32), .ref 130, .int s0, am_ju] [] (zl sn sx, xa xm T D r B (xb V L F R S P), M, q) c8 (fun _ _ => rfl) ?_
    exact sj_HelpLines_walk_p0_59 hx hM
  · refine am_ev.ke 3 59 41 [.ref 144, .int (0 : Int32), .ref 130, .int s0, am_ju] [] (zl sn sx, xa xm T D r B (xb V L F R S P), M, q) c8 (fun _ _ => rfl) ?_
    rcases am_if hM with ⟨c9, hM⟩ | ⟨c9, hM⟩
    · refine am_ev.kt 3 59 48 [.ref 144, .int (0 : Int32), .ref 130, .int s0, am_ju] [] (zl sn sx, xa xm T D r B (xb V L F R S P), M, q) c9 (fun _ _ => rfl) ?_
      exact sj_HelpLines_walk_p0_59 hx hM
    · refine am_ev.ke 3 59 48 [.ref 144, .int (0 : Int32), .ref 130, .int s0, am_ju] [] (zl sn sx, xa xm T D r B (xb V L F R S P), M, q) c9 (fun _ _ => rfl) ?_
      obtain ⟨rr, hc, hM⟩ := am_bind hM
      obtain ⟨wg1, vg2⟩ := rr
      refine am_ev.kg 3 (pc' := 53) (lv' := [.ref 144, .int (0 : Int32), .ref 130, .int s0, am_ju]) (st' := [.ref 130, .ref 123]) (h' := (zl sn sx, xa xm T D r B (xb V L F R S P), M, q)) (fun _ _ => rfl) ?_
      refine am_ev.call rfl rfl rfl ((s_Mover_fillChecks_R0x hc).mono (by decide)) ?_
      show am_ev _ k_HelpLines_walk (56, [.ref 144, .int (0 : Int32), .ref 130, .int s0, am_ju], [], (zl sn sx, xa xm T D r B (xb vg2 L F (va_up R ((0 : Int32)).toNatClampNeg wg1) S P), M, q)) oo
      refine am_ev.kg 1 (pc' := 67) (lv' := [.ref 144, .int (0 : Int32), .ref 130, .int s0, am_ju]) (st' := []) (h' := (zl sn sx, xa xm T D r B (xb vg2 L F (va_up R ((0 : Int32)).toNatClampNeg wg1) S P), M, q)) (fun _ _ => rfl) ?_
      exact sj_HelpLines_walk_p0_67 hx hM
theorem se_HelpLines_walk_p0 {fu : Nat} {dd : Nat} {sn : Nat} {sx : Nat → Int32} {M : List am_C} {q : Nat × Nat} {T : TxT} {D : BdT} {r : RdT} {B : BdT} {V : MvT} {L : RwT} {F : RwT} {R : Nat → RwT} {S : SoT} {P : HeT} {oo : am_O} {e : BdT × MvT × (Nat → RwT) × HeT} (hx : y_HelpLines_walk_p0 sn sx M q T D r L F S oo e) (hM : e_HelpLines_walk fu (g_HelpLines fu dd) (0 : Int32) B V R P = some e) : am_ev 9 k_HelpLines_walk (0, [.ref 144, .int (0 : Int32), am_ju, am_ju, am_ju], [], (zl sn sx, xa xm T D r B (xb V L F R S P), M, q)) oo := by
  unfold e_HelpLines_walk at hM
  rcases am_if hM with ⟨c10, hM⟩ | ⟨c10, hM⟩
  · refine am_ev.kt 4 13 8 [.ref 144, .int (0 : Int32), am_ju, am_ju, am_ju] [] (zl sn sx, xa xm T D r B (xb V L F R S P), M, q) c10 (fun _ _ => rfl) ?_
    cases hM
    cases hx
    exact am_ev.kf 1 (fun _ _ => rfl)
  · refine am_ev.ke 4 13 8 [.ref 144, .int (0 : Int32), am_ju, am_ju, am_ju] [] (zl sn sx, xa xm T D r B (xb V L F R S P), M, q) c10 (fun _ _ => rfl) ?_
    rcases am_if hM with ⟨c11, hM⟩ | ⟨c11, hM⟩
    · refine am_ev.kt 3 14 13 [.ref 144, .int (0 : Int32), am_ju, am_ju, am_ju] [] (zl sn sx, xa xm T D r B (xb V L F R S P), M, q) c11 (fun _ _ => rfl) ?_
      obtain ⟨c12, hM⟩ := am_ifn hM
      refine am_ev.kc 4 20 [.ref 144, .int (0 : Int32), am_ju, am_ju, am_ju] [.ref 130] (zl sn sx, xa xm T D r B (xb V L F R S P), M, q) c12 (fun _ _ => rfl) ?_
      rcases am_if hM with ⟨c13, hM⟩ | ⟨c13, hM⟩
      · refine am_ev.kt 7 35 31 [.ref 144, .int (0 : Int32), .ref 130, am_ju, am_ju] [] (zl sn sx, xa xm T D r B (xb V L F R S P), M, q) c13 (fun _ _ => rfl) ?_
        refine am_ev.kg 1 (pc' := 36) (lv' := [.ref 144, .int (0 : Int32), .ref 130, am_ju, am_ju]) (st' := [.int (0 : Int32)]) (h' := (zl sn sx, xa xm T D r B (xb V L F R S P), M, q)) (fun _ _ => rfl) ?_
        exact sj_HelpLines_walk_p0_36 hx hM
      · refine am_ev.ke 7 35 31 [.ref 144, .int (0 : Int32), .ref 130, am_ju, am_ju] [] (zl sn sx, xa xm T D r B (xb V L F R S P), M, q) c13 (fun _ _ => rfl) ?_
        refine am_ev.kg 2 (pc' := 36) (lv' := [.ref 144, .int (0 : Int32), .ref 130, am_ju, am_ju]) (st' := [.int (1 : Int32)]) (h' := (zl sn sx, xa xm T D r B (xb V L F R S P), M, q)) (fun _ _ => rfl) ?_
        exact sj_HelpLines_walk_p0_36 hx hM
    · exact absurd c11 (by decide)
theorem s_HelpLines_walk_p0 {fu : Nat} {dd : Nat} {sn : Nat} {sx : Nat → Int32} {M : List am_C} {q : Nat × Nat} {T : TxT} {D : BdT} {r : RdT} {B : BdT} {V : MvT} {L : RwT} {F : RwT} {R : Nat → RwT} {S : SoT} {P : HeT} {oB : BdT} {oV : MvT} {oR : Nat → RwT} {oP : HeT} (hM : (g_HelpLines fu dd) (0 : Int32) B V R P = some (oB, oV, oR, oP)) : am_cv 10 k_HelpLines_walk [.ref 144, .int (0 : Int32)] (zl sn sx, xa xm T D r B (xb V L F R S P), M, q) (.inl none, (zl sn sx, xa xm T D r oB (xb oV L F oR S oP), M, q)) := by
  cases dd with
  | zero => have h : (none : Option (BdT × MvT × (Nat → RwT) × HeT)) = some (oB, oV, oR, oP) := hM; cases h
  | succ dd => exact am_cv.of rfl (se_HelpLines_walk_p0 (e := (oB, oV, oR, oP)) (show y_HelpLines_walk_p0 sn sx M q T D r L F S _ (oB, oV, oR, oP) from rfl) (show e_HelpLines_walk fu (g_HelpLines fu dd) (0 : Int32) B V R P = some (oB, oV, oR, oP) from hM))
def y_Mp_lines (sn : Nat) (sx : Nat → Int32) (M : List am_C) (q : Nat × Nat) (T : TxT) (D : BdT) (r : RdT) (L : RwT) (F : RwT) (S : SoT) (oo : am_O) : (Int32 ⊕ Nat) × BdT × MvT × (Nat → RwT) × HeT → Prop
  | (oe, oB, oV, oR, oP) => oo = (am_out (oe.map (fun v => some (.int v)) id) (zl sn sx, xa xm T D r oB (xb oV L F oR S oP), M, q))
theorem se_Mp_lines {fu : Nat} {sn : Nat} {sx : Nat → Int32} {M : List am_C} {q : Nat × Nat} {T : TxT} {D : BdT} {r : RdT} {B : BdT} {V : MvT} {L : RwT} {F : RwT} {R : Nat → RwT} {S : SoT} {P : HeT} {x1 : Int32} {x2 : Int32} {oo : am_O} {e : (Int32 ⊕ Nat) × BdT × MvT × (Nat → RwT) × HeT} (hx : y_Mp_lines sn sx M q T D r L F S oo e) (hM : f_Mp_lines fu x1 x2 B V R P = some e) : am_ev 10 k_Mp_lines (0, [.ref 100, .int x1, .int x2], [], (zl sn sx, xa xm T D r B (xb V L F R S P), M, q)) oo := by
  unfold f_Mp_lines at hM
  obtain ⟨rr, hc, hM⟩ := am_bind hM
  obtain ⟨a0, rfl⟩ : ∃ z, z = rr := ⟨_, rfl⟩
  refine am_ev.kg 2 (pc' := 2) (lv' := [.ref 100, .int x1, .int x2]) (st' := [.int x2, .int x1]) (h' := (zl sn sx, xa xm T D r B (xb V L F R S P), M, q)) (fun _ _ => rfl) ?_
  rcases a0 with u0 | e0
  · refine am_ev.call rfl rfl rfl ((s_Mp_checkHelp hc).mono (by decide)) ?_
    show am_ev _ k_Mp_lines (5, [.ref 100, .int x1, .int x2], [], (zl sn sx, xa xm T D r B (xb V L F R S P), M, q)) oo
    obtain ⟨rr, hc, hM⟩ := am_bind hM
    obtain ⟨r1, pg2⟩ := rr
    refine am_ev.kg 5 (pc' := 12) (lv' := [.ref 100, .int x1, .int x2]) (st' := [.int (0 : Int32), .int x2, .int x1, .ref 144]) (h' := (zl sn sx, xa xm T D r B (xb V L F R S P), M, q)) (fun _ _ => rfl) ?_
    refine am_ev.call rfl rfl rfl ((s_HelpLines_knows hc).mono (by decide)) ?_
    show am_ev _ k_Mp_lines (15, [.ref 100, .int x1, .int x2], [.int r1], (zl sn sx, xa xm T D r B (xb V L F R S pg2), M, q)) oo
    rcases am_if hM with ⟨c1, hM⟩ | ⟨c1, hM⟩
    · refine am_ev.kt 1 26 18 [.ref 100, .int x1, .int x2] [] (zl sn sx, xa xm T D r B (xb V L F R S pg2), M, q) c1 (fun _ _ => rfl) ?_
      cases hM
      cases hx
      exact am_ev.kf 4 (fun _ _ => rfl)
    · refine am_ev.ke 1 26 18 [.ref 100, .int x1, .int x2] [] (zl sn sx, xa xm T D r B (xb V L F R S pg2), M, q) c1 (fun _ _ => rfl) ?_
      obtain ⟨rr, hc, hM⟩ := am_bind hM
      obtain ⟨bg3, vg4, rg5, pg6⟩ := rr
      refine am_ev.kg 3 (pc' := 23) (lv' := [.ref 100, .int x1, .int x2]) (st' := [.int (0 : Int32), .ref 144]) (h' := (zl sn sx, xa xm T D r B (xb V L F R S pg2), M, q)) (fun _ _ => rfl) ?_
      refine am_ev.call rfl rfl rfl ((s_HelpLines_walk_p0 hc).mono (by decide)) ?_
      show am_ev _ k_Mp_lines (26, [.ref 100, .int x1, .int x2], [], (zl sn sx, xa xm T D r bg3 (xb vg4 L F rg5 S pg6), M, q)) oo
      cases hM
      cases hx
      exact am_ev.kf 4 (fun _ _ => rfl)
  · cases hM
    cases hx
    exact am_ev.thrw rfl rfl rfl rfl rfl ((s_Mp_checkHelp hc).mono (by decide))
theorem s_Mp_lines {fu : Nat} {sn : Nat} {sx : Nat → Int32} {M : List am_C} {q : Nat × Nat} {T : TxT} {D : BdT} {r : RdT} {B : BdT} {V : MvT} {L : RwT} {F : RwT} {R : Nat → RwT} {S : SoT} {P : HeT} {x1 : Int32} {x2 : Int32} {oe : (Int32 ⊕ Nat)} {oB : BdT} {oV : MvT} {oR : Nat → RwT} {oP : HeT} (hM : f_Mp_lines fu x1 x2 B V R P = some (oe, oB, oV, oR, oP)) : am_cv 11 k_Mp_lines [.ref 100, .int x1, .int x2] (zl sn sx, xa xm T D r B (xb V L F R S P), M, q) (am_out (oe.map (fun v => some (.int v)) id) (zl sn sx, xa xm T D r oB (xb oV L F oR S oP), M, q)) := am_cv.of rfl (se_Mp_lines (e := (oe, oB, oV, oR, oP)) (show y_Mp_lines sn sx M q T D r L F S _ (oe, oB, oV, oR, oP) from rfl) hM)
def y_HelpLines_moveOf (sn : Nat) (sx : Nat → Int32) (M : List am_C) (q : Nat × Nat) (T : TxT) (D : BdT) (r : RdT) (B : BdT) (V : MvT) (L : RwT) (F : RwT) (R : Nat → RwT) (S : SoT) (P : HeT) (oo : am_O) : Int32 → Prop
  | ov => oo = (.inl (some (.int ov)), (zl sn sx, xa xm T D r B (xb V L F R S P), M, q))
theorem se_HelpLines_moveOf {sn : Nat} {sx : Nat → Int32} {M : List am_C} {q : Nat × Nat} {T : TxT} {D : BdT} {r : RdT} {B : BdT} {V : MvT} {L : RwT} {F : RwT} {R : Nat → RwT} {S : SoT} {P : HeT} {x1 : Int32} {x2 : Int32} {oo : am_O} {e : Int32} (hx : y_HelpLines_moveOf sn sx M q T D r B V L F R S P oo e) (hM : f_HelpLines_moveOf x1 x2 P = some e) : am_ev 1 k_HelpLines_moveOf (0, [.ref 144, .int x1, .int x2, am_ju], [], (zl sn sx, xa xm T D r B (xb V L F R S P), M, q)) oo := by
  unfold f_HelpLines_moveOf at hM
  rcases am_if hM with ⟨c1, hM⟩ | ⟨c1, hM⟩
  · refine am_ev.kt 11 33 15 [.ref 144, .int x1, .int x2, .int (((4 : Int32) * (x1 - (he_firstKept P))) + x2)] [] (zl sn sx, xa xm T D r B (xb V L F R S P), M, q) c1 (fun _ _ => rfl) ?_
    cases hM
    cases hx
    exact am_ev.kf 2 (fun _ _ => rfl)
  · refine am_ev.ke 11 33 15 [.ref 144, .int x1, .int x2, .int (((4 : Int32) * (x1 - (he_firstKept P))) + x2)] [] (zl sn sx, xa xm T D r B (xb V L F R S P), M, q) c1 (fun _ _ => rfl) ?_
    rcases am_if hM with ⟨c2, hM⟩ | ⟨c2, hM⟩
    · refine am_ev.kt 5 33 24 [.ref 144, .int x1, .int x2, .int (((4 : Int32) * (x1 - (he_firstKept P))) + x2)] [] (zl sn sx, xa xm T D r B (xb V L F R S P), M, q) c2 (fun _ _ => rfl) ?_
      cases hM
      cases hx
      exact am_ev.kf 2 (fun _ _ => rfl)
    · refine am_ev.ke 5 33 24 [.ref 144, .int x1, .int x2, .int (((4 : Int32) * (x1 - (he_firstKept P))) + x2)] [] (zl sn sx, xa xm T D r B (xb V L F R S P), M, q) c2 (fun _ _ => rfl) ?_
      obtain ⟨c3, hM⟩ := am_ifn hM
      refine am_ev.kc 4 30 [.ref 144, .int x1, .int x2, .int (((4 : Int32) * (x1 - (he_firstKept P))) + x2)] [.int ((he_kept P) ((((4 : Int32) * (x1 - (he_firstKept P))) + x2)).toNatClampNeg)] (zl sn sx, xa xm T D r B (xb V L F R S P), M, q) c3 (fun _ _ => rfl) ?_
      cases hM
      cases hx
      exact am_ev.kf 2 (fun _ _ => rfl)
theorem s_HelpLines_moveOf {sn : Nat} {sx : Nat → Int32} {M : List am_C} {q : Nat × Nat} {T : TxT} {D : BdT} {r : RdT} {B : BdT} {V : MvT} {L : RwT} {F : RwT} {R : Nat → RwT} {S : SoT} {P : HeT} {x1 : Int32} {x2 : Int32} {ov : Int32} (hM : f_HelpLines_moveOf x1 x2 P = some ov) : am_cv 2 k_HelpLines_moveOf [.ref 144, .int x1, .int x2] (zl sn sx, xa xm T D r B (xb V L F R S P), M, q) (.inl (some (.int ov)), (zl sn sx, xa xm T D r B (xb V L F R S P), M, q)) := am_cv.of rfl (se_HelpLines_moveOf (e := ov) (show y_HelpLines_moveOf sn sx M q T D r B V L F R S P _ ov from rfl) hM)
def y_Mp_line (sn : Nat) (sx : Nat → Int32) (M : List am_C) (q : Nat × Nat) (T : TxT) (D : BdT) (r : RdT) (L : RwT) (F : RwT) (S : SoT) (oo : am_O) : (Int32 ⊕ Nat) × BdT × MvT × (Nat → RwT) × HeT → Prop
  | (oe, oB, oV, oR, oP) => oo = (am_out (oe.map (fun v => some (.int v)) id) (zl sn sx, xa xm T D r oB (xb oV L F oR S oP), M, q))
theorem sj_Mp_line_53 {fu : Nat} {sn : Nat} {sx : Nat → Int32} {M : List am_C} {q : Nat × Nat} {T : TxT} {D : BdT} {r : RdT} {B : BdT} {V : MvT} {L : RwT} {F : RwT} {R : Nat → RwT} {S : SoT} {P : HeT} {x3 : Int32} {x4 : Int32} {oo : am_O} {e : (Int32 ⊕ Nat) × BdT × MvT × (Nat → RwT) × HeT} (hx : y_Mp_line sn sx M q T D r L F S oo e) (hM : j_Mp_line_53 fu B V R P x3 x4 = some e) : am_ev 10 k_Mp_line (53, [.ref 100, am_ju, am_ju, .int x3, .int x4], [], (zl sn sx, xa xm T D r B (xb V L F R S P), M, q)) oo := by
  unfold j_Mp_line_53 at hM
  rcases am_if hM with ⟨c1, hM⟩ | ⟨c1, hM⟩
  · refine am_ev.kt 5 74 64 [.ref 100, am_ju, am_ju, .int x3, .int x4] [] (zl sn sx, xa xm T D r B (xb V L F R S P), M, q) c1 (fun _ _ => rfl) ?_
    obtain ⟨rr, hc, hM⟩ := am_bind hM
    obtain ⟨r7, rfl⟩ : ∃ z, z = rr := ⟨_, rfl⟩
    refine am_ev.kg 4 (pc' := 81) (lv' := [.ref 100, am_ju, am_ju, .int x3, .int x4]) (st' := [.int x4, .int x3, .ref 144]) (h' := (zl sn sx, xa xm T D r B (xb V L F R S P), M, q)) (fun _ _ => rfl) ?_
    refine am_ev.call rfl rfl rfl ((s_HelpLines_moveOf hc).mono (by decide)) ?_
    show am_ev _ k_Mp_line (84, [.ref 100, am_ju, am_ju, .int x3, .int x4], [.int r7], (zl sn sx, xa xm T D r B (xb V L F R S P), M, q)) oo
    cases hM
    cases hx
    exact am_ev.kf 1 (fun _ _ => rfl)
  · refine am_ev.ke 5 74 64 [.ref 100, am_ju, am_ju, .int x3, .int x4] [] (zl sn sx, xa xm T D r B (xb V L F R S P), M, q) c1 (fun _ _ => rfl) ?_
    cases hM
    cases hx
    exact am_ev.kf 1 (fun _ _ => rfl)
theorem se_Mp_line {fu : Nat} {sn : Nat} {sx : Nat → Int32} {M : List am_C} {q : Nat × Nat} {T : TxT} {D : BdT} {r : RdT} {B : BdT} {V : MvT} {L : RwT} {F : RwT} {R : Nat → RwT} {S : SoT} {P : HeT} {x1 : Int32} {x2 : Int32} {x3 : Int32} {x4 : Int32} {oo : am_O} {e : (Int32 ⊕ Nat) × BdT × MvT × (Nat → RwT) × HeT} (hx : y_Mp_line sn sx M q T D r L F S oo e) (hM : f_Mp_line fu x1 x2 x3 x4 B V R P = some e) : am_ev 10 k_Mp_line (0, [.ref 100, .int x1, .int x2, .int x3, .int x4], [], (zl sn sx, xa xm T D r B (xb V L F R S P), M, q)) oo := by
  unfold f_Mp_line at hM
  obtain ⟨rr, hc, hM⟩ := am_bind hM
  obtain ⟨a0, rfl⟩ : ∃ z, z = rr := ⟨_, rfl⟩
  refine am_ev.kg 2 (pc' := 2) (lv' := [.ref 100, .int x1, .int x2, .int x3, .int x4]) (st' := [.int x2, .int x1]) (h' := (zl sn sx, xa xm T D r B (xb V L F R S P), M, q)) (fun _ _ => rfl) ?_
  rcases a0 with u0 | e0
  · refine am_ev.call rfl rfl rfl ((s_Mp_checkHelp hc).mono (by decide)) ?_
    show am_ev _ k_Mp_line (5, [.ref 100, .int x1, .int x2, .int x3, .int x4], [], (zl sn sx, xa xm T D r B (xb V L F R S P), M, q)) oo
    rcases am_if hM with ⟨c2, hM⟩ | ⟨c2, hM⟩
    · refine am_ev.kt 2 22 9 [.ref 100, .int x1, .int x2, .int x3, .int x4] [] (zl sn sx, xa xm T D r B (xb V L F R S P), M, q) c2 (fun _ _ => rfl) ?_
      cases hM
      cases hx
      exact am_ev.kf 1 (fun _ _ => rfl)
    · refine am_ev.ke 2 22 9 [.ref 100, .int x1, .int x2, .int x3, .int x4] [] (zl sn sx, xa xm T D r B (xb V L F R S P), M, q) c2 (fun _ _ => rfl) ?_
      rcases am_if hM with ⟨c3, hM⟩ | ⟨c3, hM⟩
      · refine am_ev.kt 2 22 14 [.ref 100, .int x1, .int x2, .int x3, .int x4] [] (zl sn sx, xa xm T D r B (xb V L F R S P), M, q) c3 (fun _ _ => rfl) ?_
        cases hM
        cases hx
        exact am_ev.kf 1 (fun _ _ => rfl)
      · refine am_ev.ke 2 22 14 [.ref 100, .int x1, .int x2, .int x3, .int x4] [] (zl sn sx, xa xm T D r B (xb V L F R S P), M, q) c3 (fun _ _ => rfl) ?_
        rcases am_if hM with ⟨c4, hM⟩ | ⟨c4, hM⟩
        · refine am_ev.kt 5 32 22 [.ref 100, .int x1, .int x2, .int x3, .int x4] [] (zl sn sx, xa xm T D r B (xb V L F R S P), M, q) c4 (fun _ _ => rfl) ?_
          obtain ⟨rr, hc, hM⟩ := am_bind hM
          obtain ⟨r1, pg2⟩ := rr
          refine am_ev.kg 5 (pc' := 39) (lv' := [.ref 100, .int x1, .int x2, .int x3, .int x4]) (st' := [.int x3, .int x2, .int x1, .ref 144]) (h' := (zl sn sx, xa xm T D r B (xb V L F R S P), M, q)) (fun _ _ => rfl) ?_
          refine am_ev.call rfl rfl rfl ((s_HelpLines_knows hc).mono (by decide)) ?_
          show am_ev _ k_Mp_line (42, [.ref 100, .int x1, .int x2, .int x3, .int x4], [.int r1], (zl sn sx, xa xm T D r B (xb V L F R S pg2), M, q)) oo
          rcases am_if hM with ⟨c5, hM⟩ | ⟨c5, hM⟩
          · refine am_ev.kt 1 53 45 [.ref 100, .int x1, .int x2, .int x3, .int x4] [] (zl sn sx, xa xm T D r B (xb V L F R S pg2), M, q) c5 (fun _ _ => rfl) ?_
            refine am_ev.wk (lv' := [.ref 100, am_ju, am_ju, .int x3, .int x4]) (am_lc (Or.inr rfl) (am_lc (Or.inl rfl) (am_lc (Or.inl rfl) (am_lc (Or.inr rfl) (am_lc (Or.inr rfl) am_ln))))) ?_
            exact sj_Mp_line_53 hx hM
          · refine am_ev.ke 1 53 45 [.ref 100, .int x1, .int x2, .int x3, .int x4] [] (zl sn sx, xa xm T D r B (xb V L F R S pg2), M, q) c5 (fun _ _ => rfl) ?_
            obtain ⟨rr, hc, hM⟩ := am_bind hM
            obtain ⟨bg3, vg4, rg5, pg6⟩ := rr
            refine am_ev.kg 3 (pc' := 50) (lv' := [.ref 100, .int x1, .int x2, .int x3, .int x4]) (st' := [.int (0 : Int32), .ref 144]) (h' := (zl sn sx, xa xm T D r B (xb V L F R S pg2), M, q)) (fun _ _ => rfl) ?_
            refine am_ev.call rfl rfl rfl ((s_HelpLines_walk_p0 hc).mono (by decide)) ?_
            show am_ev _ k_Mp_line (53, [.ref 100, .int x1, .int x2, .int x3, .int x4], [], (zl sn sx, xa xm T D r bg3 (xb vg4 L F rg5 S pg6), M, q)) oo
            refine am_ev.wk (lv' := [.ref 100, am_ju, am_ju, .int x3, .int x4]) (am_lc (Or.inr rfl) (am_lc (Or.inl rfl) (am_lc (Or.inl rfl) (am_lc (Or.inr rfl) (am_lc (Or.inr rfl) am_ln))))) ?_
            exact sj_Mp_line_53 hx hM
        · refine am_ev.ke 5 32 22 [.ref 100, .int x1, .int x2, .int x3, .int x4] [] (zl sn sx, xa xm T D r B (xb V L F R S P), M, q) c4 (fun _ _ => rfl) ?_
          cases hM
          cases hx
          exact am_ev.kf 1 (fun _ _ => rfl)
  · cases hM
    cases hx
    exact am_ev.thrw rfl rfl rfl rfl rfl ((s_Mp_checkHelp hc).mono (by decide))
theorem s_Mp_line {fu : Nat} {sn : Nat} {sx : Nat → Int32} {M : List am_C} {q : Nat × Nat} {T : TxT} {D : BdT} {r : RdT} {B : BdT} {V : MvT} {L : RwT} {F : RwT} {R : Nat → RwT} {S : SoT} {P : HeT} {x1 : Int32} {x2 : Int32} {x3 : Int32} {x4 : Int32} {oe : (Int32 ⊕ Nat)} {oB : BdT} {oV : MvT} {oR : Nat → RwT} {oP : HeT} (hM : f_Mp_line fu x1 x2 x3 x4 B V R P = some (oe, oB, oV, oR, oP)) : am_cv 11 k_Mp_line [.ref 100, .int x1, .int x2, .int x3, .int x4] (zl sn sx, xa xm T D r B (xb V L F R S P), M, q) (am_out (oe.map (fun v => some (.int v)) id) (zl sn sx, xa xm T D r oB (xb oV L F oR S oP), M, q)) := am_cv.of rfl (se_Mp_line (e := (oe, oB, oV, oR, oP)) (show y_Mp_line sn sx M q T D r L F S _ (oe, oB, oV, oR, oP) from rfl) hM)
def y_Mp_stepTable (sn : Nat) (sx : Nat → Int32) (c0 : am_C) (q : Nat × Nat) (oo : am_O) : NxT → Prop
  | oW => oo = (.inl (some (.ref 101)), (zl sn sx, [c0, .inr (.int, 1024, .inl oW)], [], q))
def x_Mp_stepTable_16 (sn : Nat) (sx : Nat → Int32) (c0 : am_C) (q : Nat × Nat) (x1 : Int32) (oo : am_O) : (NxT) → Prop
  | W => am_ev 1 k_Mp_stepTable (103, [.ref 101, .int x1, am_ju, am_ju, am_ju, am_ju], [], (zl sn sx, [c0, .inr (.int, 1024, .inl W)], [], q)) oo
def x_Mp_stepTable_8 (sn : Nat) (sx : Nat → Int32) (c0 : am_C) (q : Nat × Nat) (oo : am_O) : NxT → Prop
  | oW => oo = (.inl (some (.ref 101)), (zl sn sx, [c0, .inr (.int, 1024, .inl oW)], [], q))
theorem sj_Mp_stepTable_103 {fu : Nat} {sn : Nat} {sx : Nat → Int32} {c0 : am_C} {q : Nat × Nat} {W : NxT} {x1 : Int32} {oo : am_O} {e : NxT} {gg : Int32 → NxT → Option (NxT)} (hx : x_Mp_stepTable_8 sn sx c0 q oo e) (hg : ∀ (x1 : Int32) (W : NxT), gg x1 W = some e → am_ev 1 k_Mp_stepTable (8, [.ref 101, .int x1, am_ju, am_ju, am_ju, am_ju], [], (zl sn sx, [c0, .inr (.int, 1024, .inl W)], [], q)) oo) (hM : j_Mp_stepTable_103 fu gg W x1 = some e) : am_ev 1 k_Mp_stepTable (103, [.ref 101, .int x1, am_ju, am_ju, am_ju, am_ju], [], (zl sn sx, [c0, .inr (.int, 1024, .inl W)], [], q)) oo := by
  unfold j_Mp_stepTable_103 at hM
  refine am_ev.kg 2 (pc' := 8) (lv' := [.ref 101, .int (x1 + (1 : Int32)), am_ju, am_ju, am_ju, am_ju]) (st' := []) (h' := (zl sn sx, [c0, .inr (.int, 1024, .inl W)], [], q)) (fun _ _ => rfl) ?_
  exact hg _ _ hM
theorem sj_Mp_stepTable_96 {fu : Nat} {sn : Nat} {sx : Nat → Int32} {c0 : am_C} {q : Nat × Nat} {W : NxT} {x1 : Int32} {x2 : Int32} {s1 : Int32} {s2 : Int32} {oo : am_O} {e : (NxT)} {gg : Int32 → NxT → Option ((NxT))} (hx : x_Mp_stepTable_16 sn sx c0 q x1 oo e) (hg : ∀ (x2 : Int32) (W : NxT), gg x2 W = some e → am_ev 1 k_Mp_stepTable (16, [.ref 101, .int x1, .int x2, am_ju, am_ju, am_ju], [], (zl sn sx, [c0, .inr (.int, 1024, .inl W)], [], q)) oo) (hM : j_Mp_stepTable_96 fu gg W x1 x2 s1 s2 = some e) : am_ev 1 k_Mp_stepTable (96, [.ref 101, .int x1, .int x2, am_ju, am_ju, am_ju], [.int s2, .int s1, .ref 101], (zl sn sx, [c0, .inr (.int, 1024, .inl W)], [], q)) oo := by
  unfold j_Mp_stepTable_96 at hM
  obtain ⟨c1, hM⟩ := am_ifn hM
  refine am_ev.kc 1 97 [.ref 101, .int x1, .int x2, am_ju, am_ju, am_ju] [] (zl sn sx, [c0, .inr (.int, 1024, .inl (upd W (s1).toNatClampNeg s2))], [], q) c1 (fun _ _ => rfl) ?_
  refine am_ev.kg 2 (pc' := 16) (lv' := [.ref 101, .int x1, .int (x2 + (1 : Int32)), am_ju, am_ju, am_ju]) (st' := []) (h' := (zl sn sx, [c0, .inr (.int, 1024, .inl (upd W (s1).toNatClampNeg s2))], [], q)) (fun _ _ => rfl) ?_
  exact hg _ _ hM
theorem sj_Mp_stepTable_71 {fu : Nat} {sn : Nat} {sx : Nat → Int32} {c0 : am_C} {q : Nat × Nat} {W : NxT} {x1 : Int32} {x2 : Int32} {x3 : Int32} {x4 : Int32} {s0 : Int32} {oo : am_O} {e : (NxT)} {gg : Int32 → NxT → Option ((NxT))} (hx : x_Mp_stepTable_16 sn sx c0 q x1 oo e) (hg : ∀ (x2 : Int32) (W : NxT), gg x2 W = some e → am_ev 1 k_Mp_stepTable (16, [.ref 101, .int x1, .int x2, am_ju, am_ju, am_ju], [], (zl sn sx, [c0, .inr (.int, 1024, .inl W)], [], q)) oo) (hM : j_Mp_stepTable_71 fu gg W x1 x2 x3 x4 s0 = some e) : am_ev 1 k_Mp_stepTable (71, [.ref 101, .int x1, .int x2, .int x3, .int x4, am_ju], [.int s0], (zl sn sx, [c0, .inr (.int, 1024, .inl W)], [], q)) oo := by
  unfold j_Mp_stepTable_71 at hM
  rcases am_if hM with ⟨c2, hM⟩ | ⟨c2, hM⟩
  · refine am_ev.kt 9 95 85 [.ref 101, .int x1, .int x2, .int x3, .int x4, .int s0] [.int (((64 : Int32) * x1) + x2), .ref 101] (zl sn sx, [c0, .inr (.int, 1024, .inl W)], [], q) c2 (fun _ _ => rfl) ?_
    refine am_ev.kg 1 (pc' := 96) (lv' := [.ref 101, .int x1, .int x2, .int x3, .int x4, .int s0]) (st' := [.int (-1 : Int32), .int (((64 : Int32) * x1) + x2), .ref 101]) (h' := (zl sn sx, [c0, .inr (.int, 1024, .inl W)], [], q)) (fun _ _ => rfl) ?_
    refine am_ev.wk (lv' := [.ref 101, .int x1, .int x2, am_ju, am_ju, am_ju]) (am_lc (Or.inr rfl) (am_lc (Or.inr rfl) (am_lc (Or.inr rfl) (am_lc (Or.inl rfl) (am_lc (Or.inl rfl) (am_lc (Or.inl rfl) am_ln)))))) ?_
    exact sj_Mp_stepTable_96 hx hg hM
  · refine am_ev.ke 9 95 85 [.ref 101, .int x1, .int x2, .int x3, .int x4, .int s0] [.int (((64 : Int32) * x1) + x2), .ref 101] (zl sn sx, [c0, .inr (.int, 1024, .inl W)], [], q) c2 (fun _ _ => rfl) ?_
    refine am_ev.kg 6 (pc' := 96) (lv' := [.ref 101, .int x1, .int x2, .int x3, .int x4, .int s0]) (st' := [.int (x3 + ((8 : Int32) * x4)), .int (((64 : Int32) * x1) + x2), .ref 101]) (h' := (zl sn sx, [c0, .inr (.int, 1024, .inl W)], [], q)) (fun _ _ => rfl) ?_
    refine am_ev.wk (lv' := [.ref 101, .int x1, .int x2, am_ju, am_ju, am_ju]) (am_lc (Or.inr rfl) (am_lc (Or.inr rfl) (am_lc (Or.inr rfl) (am_lc (Or.inl rfl) (am_lc (Or.inl rfl) (am_lc (Or.inl rfl) am_ln)))))) ?_
    exact sj_Mp_stepTable_96 hx hg hM
theorem sj_Mp_stepTable_70 {fu : Nat} {sn : Nat} {sx : Nat → Int32} {c0 : am_C} {q : Nat × Nat} {W : NxT} {x1 : Int32} {x2 : Int32} {x3 : Int32} {x4 : Int32} {oo : am_O} {e : (NxT)} {gg : Int32 → NxT → Option ((NxT))} (hx : x_Mp_stepTable_16 sn sx c0 q x1 oo e) (hg : ∀ (x2 : Int32) (W : NxT), gg x2 W = some e → am_ev 1 k_Mp_stepTable (16, [.ref 101, .int x1, .int x2, am_ju, am_ju, am_ju], [], (zl sn sx, [c0, .inr (.int, 1024, .inl W)], [], q)) oo) (hM : j_Mp_stepTable_70 fu gg W x1 x2 x3 x4 = some e) : am_ev 1 k_Mp_stepTable (70, [.ref 101, .int x1, .int x2, .int x3, .int x4, am_ju], [], (zl sn sx, [c0, .inr (.int, 1024, .inl W)], [], q)) oo := by
  unfold j_Mp_stepTable_70 at hM
  refine am_ev.kg 1 (pc' := 71) (lv' := [.ref 101, .int x1, .int x2, .int x3, .int x4, am_ju]) (st' := [.int (0 : Int32)]) (h' := (zl sn sx, [c0, .inr (.int, 1024, .inl W)], [], q)) (fun _ _ => rfl) ?_
  exact sj_Mp_stepTable_71 hx hg hM
theorem sb_Mp_stepTable_16 {fu : Nat} {sn : Nat} {sx : Nat → Int32} {c0 : am_C} {q : Nat × Nat} {x1 : Int32} {oo : am_O} {e : (NxT)} {gg : Int32 → NxT → Option ((NxT))} (hx : x_Mp_stepTable_16 sn sx c0 q x1 oo e) (hg : ∀ (x2 : Int32) (W : NxT), gg x2 W = some e → am_ev 1 k_Mp_stepTable (16, [.ref 101, .int x1, .int x2, am_ju, am_ju, am_ju], [], (zl sn sx, [c0, .inr (.int, 1024, .inl W)], [], q)) oo) {x2 : Int32} {W : NxT} (hM : b_Mp_stepTable_16 fu x1 gg x2 W = some e) : am_ev 1 k_Mp_stepTable (16, [.ref 101, .int x1, .int x2, am_ju, am_ju, am_ju], [], (zl sn sx, [c0, .inr (.int, 1024, .inl W)], [], q)) oo := by
  unfold b_Mp_stepTable_16 at hM
  rcases am_if hM with ⟨c3, hM⟩ | ⟨c3, hM⟩
  · refine am_ev.kt 3 103 22 [.ref 101, .int x1, .int x2, am_ju, am_ju, am_ju] [] (zl sn sx, [c0, .inr (.int, 1024, .inl W)], [], q) c3 (fun _ _ => rfl) ?_
    refine am_ev.wk (lv' := [.ref 101, .int x1, am_ju, am_ju, am_ju, am_ju]) (am_lc (Or.inr rfl) (am_lc (Or.inr rfl) (am_lc (Or.inl rfl) (am_lc (Or.inr rfl) (am_lc (Or.inr rfl) (am_lc (Or.inr rfl) am_ln)))))) ?_
    cases hM
    exact hx
  · refine am_ev.ke 3 103 22 [.ref 101, .int x1, .int x2, am_ju, am_ju, am_ju] [] (zl sn sx, [c0, .inr (.int, 1024, .inl W)], [], q) c3 (fun _ _ => rfl) ?_
    obtain ⟨c4, hM⟩ := am_ifn hM
    refine am_ev.kc 6 31 [.ref 101, .int x1, .int x2, am_ju, am_ju, am_ju] [.int (tb_FILE_STEP (x1).toNatClampNeg), .int (x2 &&& (7 : Int32))] (zl sn sx, [c0, .inr (.int, 1024, .inl W)], [], q) c4 (fun _ _ => rfl) ?_
    obtain ⟨c5, hM⟩ := am_ifn hM
    refine am_ev.kc 8 41 [.ref 101, .int x1, .int x2, .int ((x2 &&& (7 : Int32)) + (tb_FILE_STEP (x1).toNatClampNeg)), am_ju, am_ju] [.int (tb_RANK_STEP (x1).toNatClampNeg), .int (x2 >>> ((3 : Int32) &&& 31))] (zl sn sx, [c0, .inr (.int, 1024, .inl W)], [], q) c5 (fun _ _ => rfl) ?_
    rcases am_if hM with ⟨c6, hM⟩ | ⟨c6, hM⟩
    · refine am_ev.kt 4 70 48 [.ref 101, .int x1, .int x2, .int ((x2 &&& (7 : Int32)) + (tb_FILE_STEP (x1).toNatClampNeg)), .int ((x2 >>> ((3 : Int32) &&& 31)) + (tb_RANK_STEP (x1).toNatClampNeg)), am_ju] [] (zl sn sx, [c0, .inr (.int, 1024, .inl W)], [], q) c6 (fun _ _ => rfl) ?_
      exact sj_Mp_stepTable_70 hx hg hM
    · refine am_ev.ke 4 70 48 [.ref 101, .int x1, .int x2, .int ((x2 &&& (7 : Int32)) + (tb_FILE_STEP (x1).toNatClampNeg)), .int ((x2 >>> ((3 : Int32) &&& 31)) + (tb_RANK_STEP (x1).toNatClampNeg)), am_ju] [] (zl sn sx, [c0, .inr (.int, 1024, .inl W)], [], q) c6 (fun _ _ => rfl) ?_
      rcases am_if hM with ⟨c7, hM⟩ | ⟨c7, hM⟩
      · refine am_ev.kt 3 70 54 [.ref 101, .int x1, .int x2, .int ((x2 &&& (7 : Int32)) + (tb_FILE_STEP (x1).toNatClampNeg)), .int ((x2 >>> ((3 : Int32) &&& 31)) + (tb_RANK_STEP (x1).toNatClampNeg)), am_ju] [] (zl sn sx, [c0, .inr (.int, 1024, .inl W)], [], q) c7 (fun _ _ => rfl) ?_
        exact sj_Mp_stepTable_70 hx hg hM
      · refine am_ev.ke 3 70 54 [.ref 101, .int x1, .int x2, .int ((x2 &&& (7 : Int32)) + (tb_FILE_STEP (x1).toNatClampNeg)), .int ((x2 >>> ((3 : Int32) &&& 31)) + (tb_RANK_STEP (x1).toNatClampNeg)), am_ju] [] (zl sn sx, [c0, .inr (.int, 1024, .inl W)], [], q) c7 (fun _ _ => rfl) ?_
        rcases am_if hM with ⟨c8, hM⟩ | ⟨c8, hM⟩
        · refine am_ev.kt 2 70 59 [.ref 101, .int x1, .int x2, .int ((x2 &&& (7 : Int32)) + (tb_FILE_STEP (x1).toNatClampNeg)), .int ((x2 >>> ((3 : Int32) &&& 31)) + (tb_RANK_STEP (x1).toNatClampNeg)), am_ju] [] (zl sn sx, [c0, .inr (.int, 1024, .inl W)], [], q) c8 (fun _ _ => rfl) ?_
          exact sj_Mp_stepTable_70 hx hg hM
        · refine am_ev.ke 2 70 59 [.ref 101, .int x1, .int x2, .int ((x2 &&& (7 : Int32)) + (tb_FILE_STEP (x1).toNatClampNeg)), .int ((x2 >>> ((3 : Int32) &&& 31)) + (tb_RANK_STEP (x1).toNatClampNeg)), am_ju] [] (zl sn sx, [c0, .inr (.int, 1024, .inl W)], [], q) c8 (fun _ _ => rfl) ?_
          rcases am_if hM with ⟨c9, hM⟩ | ⟨c9, hM⟩
          · refine am_ev.kt 3 70 66 [.ref 101, .int x1, .int x2, .int ((x2 &&& (7 : Int32)) + (tb_FILE_STEP (x1).toNatClampNeg)), .int ((x2 >>> ((3 : Int32) &&& 31)) + (tb_RANK_STEP (x1).toNatClampNeg)), am_ju] [] (zl sn sx, [c0, .inr (.int, 1024, .inl W)], [], q) c9 (fun _ _ => rfl) ?_
            exact sj_Mp_stepTable_70 hx hg hM
          · refine am_ev.ke 3 70 66 [.ref 101, .int x1, .int x2, .int ((x2 &&& (7 : Int32)) + (tb_FILE_STEP (x1).toNatClampNeg)), .int ((x2 >>> ((3 : Int32) &&& 31)) + (tb_RANK_STEP (x1).toNatClampNeg)), am_ju] [] (zl sn sx, [c0, .inr (.int, 1024, .inl W)], [], q) c9 (fun _ _ => rfl) ?_
            refine am_ev.kg 2 (pc' := 71) (lv' := [.ref 101, .int x1, .int x2, .int ((x2 &&& (7 : Int32)) + (tb_FILE_STEP (x1).toNatClampNeg)), .int ((x2 >>> ((3 : Int32) &&& 31)) + (tb_RANK_STEP (x1).toNatClampNeg)), am_ju]) (st' := [.int (1 : Int32)]) (h' := (zl sn sx, [c0, .inr (.int, 1024, .inl W)], [], q)) (fun _ _ => rfl) ?_
            exact sj_Mp_stepTable_71 hx hg hM
theorem sl_Mp_stepTable_16 {fu : Nat} {sn : Nat} {sx : Nat → Int32} {c0 : am_C} {q : Nat × Nat} {x1 : Int32} {oo : am_O} {e : (NxT)} (hx : x_Mp_stepTable_16 sn sx c0 q x1 oo e) : ∀ (n : Nat) (x2 : Int32) (W : NxT), l_Mp_stepTable_16 fu x1 n x2 W = some e → am_ev 1 k_Mp_stepTable (16, [.ref 101, .int x1, .int x2, am_ju, am_ju, am_ju], [], (zl sn sx, [c0, .inr (.int, 1024, .inl W)], [], q)) oo
  | 0, _, _, hM => by have h : (none : Option ((NxT))) = some e := hM; cases h
  | n + 1, _, _, hM => sb_Mp_stepTable_16 hx (fun _ _ hM => sl_Mp_stepTable_16 hx n _ _ hM) hM
theorem sb_Mp_stepTable_8 {fu : Nat} {sn : Nat} {sx : Nat → Int32} {c0 : am_C} {q : Nat × Nat} {oo : am_O} {e : NxT} {gg : Int32 → NxT → Option (NxT)} (hx : x_Mp_stepTable_8 sn sx c0 q oo e) (hg : ∀ (x1 : Int32) (W : NxT), gg x1 W = some e → am_ev 1 k_Mp_stepTable (8, [.ref 101, .int x1, am_ju, am_ju, am_ju, am_ju], [], (zl sn sx, [c0, .inr (.int, 1024, .inl W)], [], q)) oo) {x1 : Int32} {W : NxT} (hM : b_Mp_stepTable_8 fu gg x1 W = some e) : am_ev 1 k_Mp_stepTable (8, [.ref 101, .int x1, am_ju, am_ju, am_ju, am_ju], [], (zl sn sx, [c0, .inr (.int, 1024, .inl W)], [], q)) oo := by
  unfold b_Mp_stepTable_8 at hM
  rcases am_if hM with ⟨c10, hM⟩ | ⟨c10, hM⟩
  · refine am_ev.kt 3 109 14 [.ref 101, .int x1, am_ju, am_ju, am_ju, am_ju] [] (zl sn sx, [c0, .inr (.int, 1024, .inl W)], [], q) c10 (fun _ _ => rfl) ?_
    cases hM
    cases hx
    exact am_ev.kf 2 (fun _ _ => rfl)
  · refine am_ev.ke 3 109 14 [.ref 101, .int x1, am_ju, am_ju, am_ju, am_ju] [] (zl sn sx, [c0, .inr (.int, 1024, .inl W)], [], q) c10 (fun _ _ => rfl) ?_
    refine am_ev.kg 2 (pc' := 16) (lv' := [.ref 101, .int x1, .int (0 : Int32), am_ju, am_ju, am_ju]) (st' := []) (h' := (zl sn sx, [c0, .inr (.int, 1024, .inl W)], [], q)) (fun _ _ => rfl) ?_
    obtain ⟨z, hz, hM⟩ := am_bind hM
    obtain ⟨wz_1, rfl⟩ : ∃ y, y = z := ⟨_, rfl⟩
    refine sl_Mp_stepTable_16 ?_ _ _ _ hz
    show am_ev 1 k_Mp_stepTable (103, [.ref 101, .int x1, am_ju, am_ju, am_ju, am_ju], [], (zl sn sx, [c0, .inr (.int, 1024, .inl wz_1)], [], q)) oo
    exact sj_Mp_stepTable_103 hx hg hM
theorem sl_Mp_stepTable_8 {fu : Nat} {sn : Nat} {sx : Nat → Int32} {c0 : am_C} {q : Nat × Nat} {oo : am_O} {e : NxT} (hx : x_Mp_stepTable_8 sn sx c0 q oo e) : ∀ (n : Nat) (x1 : Int32) (W : NxT), l_Mp_stepTable_8 fu n x1 W = some e → am_ev 1 k_Mp_stepTable (8, [.ref 101, .int x1, am_ju, am_ju, am_ju, am_ju], [], (zl sn sx, [c0, .inr (.int, 1024, .inl W)], [], q)) oo
  | 0, _, _, hM => by have h : (none : Option (NxT)) = some e := hM; cases h
  | n + 1, _, _, hM => sb_Mp_stepTable_8 hx (fun _ _ hM => sl_Mp_stepTable_8 hx n _ _ hM) hM
theorem se_Mp_stepTable {fu : Nat} {sn : Nat} {sx : Nat → Int32} {c0 : am_C} {q : Nat × Nat} {W : NxT} {oo : am_O} {e : NxT} (hx : y_Mp_stepTable sn sx c0 q oo e) (hM : f_Mp_stepTable fu W = some e) : am_ev 1 k_Mp_stepTable (6, [.ref 101, am_ju, am_ju, am_ju, am_ju, am_ju], [], (zl sn sx, [c0, .inr (.int, 1024, .inl W)], [], q)) oo := by
  unfold f_Mp_stepTable at hM
  refine am_ev.kg 2 (pc' := 8) (lv' := [.ref 101, .int (0 : Int32), am_ju, am_ju, am_ju, am_ju]) (st' := []) (h' := (zl sn sx, [c0, .inr (.int, 1024, .inl W)], [], q)) (fun _ _ => rfl) ?_
  refine sl_Mp_stepTable_8 ?_ _ _ _ hM
  exact hx
def y_Board_clear_B (sn : Nat) (sx : Nat → Int32) (M : List am_C) (q : Nat × Nat) (c0 : am_C) (tl : List am_C) (T : TxT) (D : BdT) (r : RdT) (oo : am_O) : BdT → Prop
  | ob => oo = (.inl none, (zl sn sx, xa c0 T D r ob tl, M, q))
def x_Board_clear_B_2 (sn : Nat) (sx : Nat → Int32) (M : List am_C) (q : Nat × Nat) (c0 : am_C) (tl : List am_C) (T : TxT) (D : BdT) (r : RdT) (oo : am_O) : (BdT) → Prop
  | b => am_ev 1 k_Board_clear (21, [.ref 114, am_ju], [], (zl sn sx, xa c0 T D r b tl, M, q)) oo
theorem sb_Board_clear_B_2 {fu : Nat} {sn : Nat} {sx : Nat → Int32} {M : List am_C} {q : Nat × Nat} {c0 : am_C} {tl : List am_C} {T : TxT} {D : BdT} {r : RdT} {oo : am_O} {e : (BdT)} {gg : Int32 → BdT → Option ((BdT))} (hx : x_Board_clear_B_2 sn sx M q c0 tl T D r oo e) (hg : ∀ (x1 : Int32) (b : BdT), gg x1 b = some e → am_ev 1 k_Board_clear (2, [.ref 114, .int x1], [], (zl sn sx, xa c0 T D r b tl, M, q)) oo) {x1 : Int32} {b : BdT} (hM : b_Board_clear_2 fu gg x1 b = some e) : am_ev 1 k_Board_clear (2, [.ref 114, .int x1], [], (zl sn sx, xa c0 T D r b tl, M, q)) oo := by
  unfold b_Board_clear_2 at hM
  rcases am_if hM with ⟨c1, hM⟩ | ⟨c1, hM⟩
  · refine am_ev.kt 3 21 8 [.ref 114, .int x1] [] (zl sn sx, xa c0 T D r b tl, M, q) c1 (fun _ _ => rfl) ?_
    refine am_ev.wk (lv' := [.ref 114, am_ju]) (am_lc (Or.inr rfl) (am_lc (Or.inl rfl) am_ln)) ?_
    cases hM
    exact hx
  · refine am_ev.ke 3 21 8 [.ref 114, .int x1] [] (zl sn sx, xa c0 T D r b tl, M, q) c1 (fun _ _ => rfl) ?_
    obtain ⟨c2, hM⟩ := am_ifn hM
    refine am_ev.kc 5 15 [.ref 114, .int x1] [] (zl sn sx, xa c0 T D r ((upd (bd_men b) (x1).toNatClampNeg (0 : Int32)), (bd_held b), (bd_kings b), (bd_side b), (bd_rights b), (bd_passed b), (bd_depth b), (bd_made b), (bd_taken b), (bd_takenAt b), (bd_rightsBefore b), (bd_passedBefore b)) tl, M, q) c2 (fun _ _ => rfl) ?_
    refine am_ev.kg 2 (pc' := 2) (lv' := [.ref 114, .int (x1 + (1 : Int32))]) (st' := []) (h' := (zl sn sx, xa c0 T D r ((upd (bd_men b) (x1).toNatClampNeg (0 : Int32)), (bd_held b), (bd_kings b), (bd_side b), (bd_rights b), (bd_passed b), (bd_depth b), (bd_made b), (bd_taken b), (bd_takenAt b), (bd_rightsBefore b), (bd_passedBefore b)) tl, M, q)) (fun _ _ => rfl) ?_
    exact hg _ _ hM
theorem sl_Board_clear_B_2 {fu : Nat} {sn : Nat} {sx : Nat → Int32} {M : List am_C} {q : Nat × Nat} {c0 : am_C} {tl : List am_C} {T : TxT} {D : BdT} {r : RdT} {oo : am_O} {e : (BdT)} (hx : x_Board_clear_B_2 sn sx M q c0 tl T D r oo e) : ∀ (n : Nat) (x1 : Int32) (b : BdT), l_Board_clear_2 fu n x1 b = some e → am_ev 1 k_Board_clear (2, [.ref 114, .int x1], [], (zl sn sx, xa c0 T D r b tl, M, q)) oo
  | 0, _, _, hM => by have h : (none : Option ((BdT))) = some e := hM; cases h
  | n + 1, _, _, hM => sb_Board_clear_B_2 hx (fun _ _ hM => sl_Board_clear_B_2 hx n _ _ hM) hM
theorem sj_Board_clear_B_21 {fu : Nat} {sn : Nat} {sx : Nat → Int32} {M : List am_C} {q : Nat × Nat} {c0 : am_C} {tl : List am_C} {T : TxT} {D : BdT} {r : RdT} {b : BdT} {oo : am_O} {e : BdT} (hx : y_Board_clear_B sn sx M q c0 tl T D r oo e) (hM : j_Board_clear_21 fu b = some e) : am_ev 1 k_Board_clear (21, [.ref 114, am_ju], [], (zl sn sx, xa c0 T D r b tl, M, q)) oo := by
  unfold j_Board_clear_21 at hM
  obtain ⟨c3, hM⟩ := am_ifn hM
  refine am_ev.kc 5 28 [.ref 114, am_ju] [] (zl sn sx, xa c0 T D r ((bd_men b), (vp_updL (bd_held b) ((0 : Int32)).toNatClampNeg (0 : Int64)), (bd_kings b), (bd_side b), (bd_rights b), (bd_passed b), (bd_depth b), (bd_made b), (bd_taken b), (bd_takenAt b), (bd_rightsBefore b), (bd_passedBefore b)) tl, M, q) c3 (fun _ _ => rfl) ?_
  obtain ⟨c4, hM⟩ := am_ifn hM
  refine am_ev.kc 5 35 [.ref 114, am_ju] [] (zl sn sx, xa c0 T D r ((bd_men b), (vp_updL (vp_updL (bd_held b) ((0 : Int32)).toNatClampNeg (0 : Int64)) ((1 : Int32)).toNatClampNeg (0 : Int64)), (bd_kings b), (bd_side b), (bd_rights b), (bd_passed b), (bd_depth b), (bd_made b), (bd_taken b), (bd_takenAt b), (bd_rightsBefore b), (bd_passedBefore b)) tl, M, q) c4 (fun _ _ => rfl) ?_
  cases hM
  cases hx
  exact am_ev.kf 13 (fun _ _ => rfl)
theorem se_Board_clear_B {fu : Nat} {sn : Nat} {sx : Nat → Int32} {M : List am_C} {q : Nat × Nat} {c0 : am_C} {tl : List am_C} {T : TxT} {D : BdT} {r : RdT} {b : BdT} {oo : am_O} {e : BdT} (hx : y_Board_clear_B sn sx M q c0 tl T D r oo e) (hM : f_Board_clear fu b = some e) : am_ev 1 k_Board_clear (0, [.ref 114, am_ju], [], (zl sn sx, xa c0 T D r b tl, M, q)) oo := by
  unfold f_Board_clear at hM
  refine am_ev.kg 2 (pc' := 2) (lv' := [.ref 114, .int (0 : Int32)]) (st' := []) (h' := (zl sn sx, xa c0 T D r b tl, M, q)) (fun _ _ => rfl) ?_
  obtain ⟨z, hz, hM⟩ := am_bind hM
  obtain ⟨bz_1, rfl⟩ : ∃ y, y = z := ⟨_, rfl⟩
  refine sl_Board_clear_B_2 ?_ _ _ _ hz
  show am_ev 1 k_Board_clear (21, [.ref 114, am_ju], [], (zl sn sx, xa c0 T D r bz_1 tl, M, q)) oo
  exact sj_Board_clear_B_21 hx hM
theorem s_Board_clear_B {fu : Nat} {sn : Nat} {sx : Nat → Int32} {M : List am_C} {q : Nat × Nat} {c0 : am_C} {tl : List am_C} {T : TxT} {D : BdT} {r : RdT} {b : BdT} {ob : BdT} (hM : f_Board_clear fu b = some ob) : am_cv 2 k_Board_clear [.ref 114] (zl sn sx, xa c0 T D r b tl, M, q) (.inl none, (zl sn sx, xa c0 T D r ob tl, M, q)) := am_cv.of rfl (se_Board_clear_B (e := ob) (show y_Board_clear_B sn sx M q c0 tl T D r _ ob from rfl) hM)
def y_Board_setUp_B (sn : Nat) (sx : Nat → Int32) (M : List am_C) (q : Nat × Nat) (c0 : am_C) (tl : List am_C) (T : TxT) (D : BdT) (r : RdT) (oo : am_O) : BdT → Prop
  | ob => oo = (.inl none, (zl sn sx, xa c0 T D r ob tl, M, q))
def x_Board_setUp_B_6 (sn : Nat) (sx : Nat → Int32) (M : List am_C) (q : Nat × Nat) (c0 : am_C) (tl : List am_C) (T : TxT) (D : BdT) (r : RdT) (oo : am_O) : (BdT) → Prop
  | b => am_ev 2 k_Board_setUp (63, [.ref 114, am_ju], [], (zl sn sx, xa c0 T D r b tl, M, q)) oo
theorem sb_Board_setUp_B_6 {fu : Nat} {sn : Nat} {sx : Nat → Int32} {M : List am_C} {q : Nat × Nat} {c0 : am_C} {tl : List am_C} {T : TxT} {D : BdT} {r : RdT} {oo : am_O} {e : (BdT)} {gg : Int32 → BdT → Option ((BdT))} (hx : x_Board_setUp_B_6 sn sx M q c0 tl T D r oo e) (hg : ∀ (x1 : Int32) (b : BdT), gg x1 b = some e → am_ev 2 k_Board_setUp (6, [.ref 114, .int x1], [], (zl sn sx, xa c0 T D r b tl, M, q)) oo) {x1 : Int32} {b : BdT} (hM : b_Board_setUp_6 fu gg x1 b = some e) : am_ev 2 k_Board_setUp (6, [.ref 114, .int x1], [], (zl sn sx, xa c0 T D r b tl, M, q)) oo := by
  unfold b_Board_setUp_6 at hM
  rcases am_if hM with ⟨c1, hM⟩ | ⟨c1, hM⟩
  · refine am_ev.kt 3 63 12 [.ref 114, .int x1] [] (zl sn sx, xa c0 T D r b tl, M, q) c1 (fun _ _ => rfl) ?_
    refine am_ev.wk (lv' := [.ref 114, am_ju]) (am_lc (Or.inr rfl) (am_lc (Or.inl rfl) am_ln)) ?_
    cases hM
    exact hx
  · refine am_ev.ke 3 63 12 [.ref 114, .int x1] [] (zl sn sx, xa c0 T D r b tl, M, q) c1 (fun _ _ => rfl) ?_
    obtain ⟨c2, hM⟩ := am_ifn hM
    refine am_ev.kc 5 19 [.ref 114, .int x1] [.int (tb_FIRST_RANK (x1).toNatClampNeg), .int x1, .ref 114] (zl sn sx, xa c0 T D r b tl, M, q) c2 (fun _ _ => rfl) ?_
    obtain ⟨rr, hc, hM⟩ := am_bind hM
    obtain ⟨bg2, rfl⟩ : ∃ z, z = rr := ⟨_, rfl⟩
    refine am_ev.call rfl rfl rfl ((s_Board_put_B hc).mono (by decide)) ?_
    show am_ev _ k_Board_setUp (22, [.ref 114, .int x1], [], (zl sn sx, xa c0 T D r bg2 tl, M, q)) oo
    obtain ⟨rr, hc, hM⟩ := am_bind hM
    obtain ⟨bg3, rfl⟩ : ∃ z, z = rr := ⟨_, rfl⟩
    refine am_ev.kg 5 (pc' := 28) (lv' := [.ref 114, .int x1]) (st' := [.int (1 : Int32), .int (x1 + (8 : Int32)), .ref 114]) (h' := (zl sn sx, xa c0 T D r bg2 tl, M, q)) (fun _ _ => rfl) ?_
    refine am_ev.call rfl rfl rfl ((s_Board_put_B hc).mono (by decide)) ?_
    show am_ev _ k_Board_setUp (31, [.ref 114, .int x1], [], (zl sn sx, xa c0 T D r bg3 tl, M, q)) oo
    obtain ⟨rr, hc, hM⟩ := am_bind hM
    obtain ⟨bg4, rfl⟩ : ∃ z, z = rr := ⟨_, rfl⟩
    refine am_ev.kg 5 (pc' := 38) (lv' := [.ref 114, .int x1]) (st' := [.int (9 : Int32), .int (x1 + (48 : Int32)), .ref 114]) (h' := (zl sn sx, xa c0 T D r bg3 tl, M, q)) (fun _ _ => rfl) ?_
    refine am_ev.call rfl rfl rfl ((s_Board_put_B hc).mono (by decide)) ?_
    show am_ev _ k_Board_setUp (41, [.ref 114, .int x1], [], (zl sn sx, xa c0 T D r bg4 tl, M, q)) oo
    obtain ⟨c3, hM⟩ := am_ifn hM
    refine am_ev.kc 7 51 [.ref 114, .int x1] [.int (tb_FIRST_RANK (x1).toNatClampNeg), .int (x1 + (56 : Int32)), .ref 114] (zl sn sx, xa c0 T D r bg4 tl, M, q) c3 (fun _ _ => rfl) ?_
    obtain ⟨rr, hc, hM⟩ := am_bind hM
    obtain ⟨bg5, rfl⟩ : ∃ z, z = rr := ⟨_, rfl⟩
    refine am_ev.kg 2 (pc' := 54) (lv' := [.ref 114, .int x1]) (st' := [.int ((tb_FIRST_RANK (x1).toNatClampNeg) + (8 : Int32)), .int (x1 + (56 : Int32)), .ref 114]) (h' := (zl sn sx, xa c0 T D r bg4 tl, M, q)) (fun _ _ => rfl) ?_
    refine am_ev.call rfl rfl rfl ((s_Board_put_B hc).mono (by decide)) ?_
    show am_ev _ k_Board_setUp (57, [.ref 114, .int x1], [], (zl sn sx, xa c0 T D r bg5 tl, M, q)) oo
    refine am_ev.kg 2 (pc' := 6) (lv' := [.ref 114, .int (x1 + (1 : Int32))]) (st' := []) (h' := (zl sn sx, xa c0 T D r bg5 tl, M, q)) (fun _ _ => rfl) ?_
    exact hg _ _ hM
theorem sl_Board_setUp_B_6 {fu : Nat} {sn : Nat} {sx : Nat → Int32} {M : List am_C} {q : Nat × Nat} {c0 : am_C} {tl : List am_C} {T : TxT} {D : BdT} {r : RdT} {oo : am_O} {e : (BdT)} (hx : x_Board_setUp_B_6 sn sx M q c0 tl T D r oo e) : ∀ (n : Nat) (x1 : Int32) (b : BdT), l_Board_setUp_6 fu n x1 b = some e → am_ev 2 k_Board_setUp (6, [.ref 114, .int x1], [], (zl sn sx, xa c0 T D r b tl, M, q)) oo
  | 0, _, _, hM => by have h : (none : Option ((BdT))) = some e := hM; cases h
  | n + 1, _, _, hM => sb_Board_setUp_B_6 hx (fun _ _ hM => sl_Board_setUp_B_6 hx n _ _ hM) hM
theorem sj_Board_setUp_B_63 {fu : Nat} {sn : Nat} {sx : Nat → Int32} {M : List am_C} {q : Nat × Nat} {c0 : am_C} {tl : List am_C} {T : TxT} {D : BdT} {r : RdT} {b : BdT} {oo : am_O} {e : BdT} (hx : y_Board_setUp_B sn sx M q c0 tl T D r oo e) (hM : j_Board_setUp_63 fu b = some e) : am_ev 2 k_Board_setUp (63, [.ref 114, am_ju], [], (zl sn sx, xa c0 T D r b tl, M, q)) oo := by
  unfold j_Board_setUp_63 at hM
  obtain ⟨c4, hM⟩ := am_ifn hM
  refine am_ev.kc 5 70 [.ref 114, am_ju] [] (zl sn sx, xa c0 T D r ((bd_men b), (bd_held b), (upd (bd_kings b) ((0 : Int32)).toNatClampNeg (4 : Int32)), (bd_side b), (bd_rights b), (bd_passed b), (bd_depth b), (bd_made b), (bd_taken b), (bd_takenAt b), (bd_rightsBefore b), (bd_passedBefore b)) tl, M, q) c4 (fun _ _ => rfl) ?_
  obtain ⟨c5, hM⟩ := am_ifn hM
  refine am_ev.kc 5 78 [.ref 114, am_ju] [] (zl sn sx, xa c0 T D r ((bd_men b), (bd_held b), (upd (upd (bd_kings b) ((0 : Int32)).toNatClampNeg (4 : Int32)) ((1 : Int32)).toNatClampNeg (60 : Int32)), (bd_side b), (bd_rights b), (bd_passed b), (bd_depth b), (bd_made b), (bd_taken b), (bd_takenAt b), (bd_rightsBefore b), (bd_passedBefore b)) tl, M, q) c5 (fun _ _ => rfl) ?_
  cases hM
  cases hx
  exact am_ev.kf 4 (fun _ _ => rfl)
theorem se_Board_setUp_B {fu : Nat} {sn : Nat} {sx : Nat → Int32} {M : List am_C} {q : Nat × Nat} {c0 : am_C} {tl : List am_C} {T : TxT} {D : BdT} {r : RdT} {b : BdT} {oo : am_O} {e : BdT} (hx : y_Board_setUp_B sn sx M q c0 tl T D r oo e) (hM : f_Board_setUp fu b = some e) : am_ev 2 k_Board_setUp (0, [.ref 114, am_ju], [], (zl sn sx, xa c0 T D r b tl, M, q)) oo := by
  unfold f_Board_setUp at hM
  obtain ⟨rr, hc, hM⟩ := am_bind hM
  obtain ⟨bg1, rfl⟩ : ∃ z, z = rr := ⟨_, rfl⟩
  refine am_ev.kg 1 (pc' := 1) (lv' := [.ref 114, am_ju]) (st' := [.ref 114]) (h' := (zl sn sx, xa c0 T D r b tl, M, q)) (fun _ _ => rfl) ?_
  refine am_ev.call rfl rfl rfl ((s_Board_clear_B hc).mono (by decide)) ?_
  show am_ev _ k_Board_setUp (4, [.ref 114, am_ju], [], (zl sn sx, xa c0 T D r bg1 tl, M, q)) oo
  refine am_ev.kg 2 (pc' := 6) (lv' := [.ref 114, .int (0 : Int32)]) (st' := []) (h' := (zl sn sx, xa c0 T D r bg1 tl, M, q)) (fun _ _ => rfl) ?_
  obtain ⟨z, hz, hM⟩ := am_bind hM
  obtain ⟨bz_1, rfl⟩ : ∃ y, y = z := ⟨_, rfl⟩
  refine sl_Board_setUp_B_6 ?_ _ _ _ hz
  show am_ev 2 k_Board_setUp (63, [.ref 114, am_ju], [], (zl sn sx, xa c0 T D r bz_1 tl, M, q)) oo
  exact sj_Board_setUp_B_63 hx hM
theorem s_Board_setUp_B {fu : Nat} {sn : Nat} {sx : Nat → Int32} {M : List am_C} {q : Nat × Nat} {c0 : am_C} {tl : List am_C} {T : TxT} {D : BdT} {r : RdT} {b : BdT} {ob : BdT} (hM : f_Board_setUp fu b = some ob) : am_cv 3 k_Board_setUp [.ref 114] (zl sn sx, xa c0 T D r b tl, M, q) (.inl none, (zl sn sx, xa c0 T D r ob tl, M, q)) := am_cv.of rfl (se_Board_setUp_B (e := ob) (show y_Board_setUp_B sn sx M q c0 tl T D r _ ob from rfl) hM)
