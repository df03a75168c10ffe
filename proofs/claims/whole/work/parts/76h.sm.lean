def y_Solver_hasKey_p0 (sn : Nat) (sx : Nat → Int32) (M : List am_C) (q : Nat × Nat) (T : TxT) (D : BdT) (r : RdT) (L : RwT) (F : RwT) (P : HeT) (oo : am_O) : Int32 × BdT × MvT × (Nat → RwT) × SoT → Prop
  | (ov, oB, oV, oR, oS) => oo = (.inl (some (.int ov)), (zl sn sx, xa xm T D r oB (xb oV L F oR oS P), M, q))
def x_Solver_hasKey_p0_83 (sn : Nat) (sx : Nat → Int32) (M : List am_C) (q : Nat × Nat) (T : TxT) (D : BdT) (r : RdT) (L : RwT) (F : RwT) (P : HeT) (x1 : Int32) (x4 : Int32) (oo : am_O) : ((Int32 × BdT × MvT × (Nat → RwT) × SoT)) ⊕ (Int32 × BdT × MvT × (Nat → RwT) × SoT) → Prop
  | (.inl (x6, B, V, R, S)) => am_ev 11 k_Solver_hasKey (173, [.ref 142, am_ju, .int (0 : Int32), am_ju, am_ju, am_ju, .int x6, am_ju], [], (zl sn sx, xa xm T D r B (xb V L F R S P), M, q)) oo
  | .inr (ov, oB, oV, oR, oS) => oo = (.inl (some (.int ov)), (zl sn sx, xa xm T D r oB (xb oV L F oR oS P), M, q))
theorem sj_Solver_hasKey_p0_159 {fu : Nat} {dd : Nat} {sn : Nat} {sx : Nat → Int32} {M : List am_C} {q : Nat × Nat} {T : TxT} {D : BdT} {r : RdT} {B : BdT} {V : MvT} {L : RwT} {F : RwT} {R : Nat → RwT} {S : SoT} {P : HeT} {x1 : Int32} {x4 : Int32} {x5 : Int32} {x6 : Int32} {s0 : Int32} {oo : am_O} {e : ((Int32 × BdT × MvT × (Nat → RwT) × SoT)) ⊕ (Int32 × BdT × MvT × (Nat → RwT) × SoT)} {gg : Int32 → BdT → MvT → (Nat → RwT) → SoT → Option (((Int32 × BdT × MvT × (Nat → RwT) × SoT)) ⊕ (Int32 × BdT × MvT × (Nat → RwT) × SoT))} (hx : x_Solver_hasKey_p0_83 sn sx M q T D r L F P x1 x4 oo e) (hg : ∀ (x5 : Int32) (B : BdT) (V : MvT) (R : Nat → RwT) (S : SoT), gg x5 B V R S = some e → am_ev 11 k_Solver_hasKey (83, [.ref 142, .int x1, .int (0 : Int32), .ref 130, .int x4, .int x5, am_ju, am_ju], [], (zl sn sx, xa xm T D r B (xb V L F R S P), M, q)) oo) (hM : j_Solver_hasKey_159 fu (g_Solver fu dd).1 (g_Solver fu dd).2 gg B V R S x1 (0 : Int32) x4 x5 x6 s0 = some e) : am_ev 11 k_Solver_hasKey (159, [.ref 142, .int x1, .int (0 : Int32), .ref 130, .int x4, .int x5, .int x6, am_ju], [.int s0], (zl sn sx, xa xm T D r B (xb V L F R S P), M, q)) oo := by
  unfold j_Solver_hasKey_159 at hM
  obtain ⟨rr, hc, hM⟩ := am_bind hM
  obtain ⟨bg14, rfl⟩ : ∃ z, z = rr := ⟨_, rfl⟩
  refine am_ev.kg 3 (pc' := 165) (lv' := [.ref 142, .int x1, .int (0 : Int32), .ref 130, .int x4, .int x5, .int x6, .int s0]) (st' := [.ref 114]) (h' := (zl sn sx, xa xm T D r B (xb V L F R S P), M, q)) (fun _ _ => rfl) ?_
  refine am_ev.call rfl rfl rfl ((s_Board_unmake_B hc).mono (by decide)) ?_
  show am_ev _ k_Solver_hasKey (168, [.ref 142, .int x1, .int (0 : Int32), .ref 130, .int x4, .int x5, .int x6, .int s0], [], (zl sn sx, xa xm T D r bg14 (xb V L F R S P), M, q)) oo
  rcases am_if hM with ⟨c1, hM⟩ | ⟨c1, hM⟩
  · refine am_ev.kt 2 183 173 [.ref 142, .int x1, .int (0 : Int32), .ref 130, .int x4, .int x5, .int x6, .int s0] [] (zl sn sx, xa xm T D r bg14 (xb V L F R S P), M, q) c1 (fun _ _ => rfl) ?_
    refine am_ev.kg 2 (pc' := 83) (lv' := [.ref 142, .int x1, .int (0 : Int32), .ref 130, .int x4, .int (x5 + (1 : Int32)), .int x6, .int s0]) (st' := []) (h' := (zl sn sx, xa xm T D r bg14 (xb V L F R S P), M, q)) (fun _ _ => rfl) ?_
    refine am_ev.wk (lv' := [.ref 142, .int x1, .int (0 : Int32), .ref 130, .int x4, .int (x5 + (1 : Int32)), am_ju, am_ju]) (am_lc (Or.inr rfl) (am_lc (Or.inr rfl) (am_lc (Or.inr rfl) (am_lc (Or.inr rfl) (am_lc (Or.inr rfl) (am_lc (Or.inr rfl) (am_lc (Or.inl rfl) (am_lc (Or.inl rfl) am_ln)))))))) ?_
    exact hg _ _ _ _ _ hM
  · refine am_ev.ke 2 183 173 [.ref 142, .int x1, .int (0 : Int32), .ref 130, .int x4, .int x5, .int x6, .int s0] [] (zl sn sx, xa xm T D r bg14 (xb V L F R S P), M, q) c1 (fun _ _ => rfl) ?_
    refine am_ev.wk (lv' := [.ref 142, am_ju, .int (0 : Int32), am_ju, am_ju, am_ju, .int x6, am_ju]) (am_lc (Or.inr rfl) (am_lc (Or.inl rfl) (am_lc (Or.inr rfl) (am_lc (Or.inl rfl) (am_lc (Or.inl rfl) (am_lc (Or.inl rfl) (am_lc (Or.inr rfl) (am_lc (Or.inl rfl) am_ln)))))))) ?_
    cases hM
    exact hx
theorem sj_Solver_hasKey_p0_173 {fu : Nat} {dd : Nat} {sn : Nat} {sx : Nat → Int32} {M : List am_C} {q : Nat × Nat} {T : TxT} {D : BdT} {r : RdT} {B : BdT} {V : MvT} {L : RwT} {F : RwT} {R : Nat → RwT} {S : SoT} {P : HeT} {x6 : Int32} {oo : am_O} {e : Int32 × BdT × MvT × (Nat → RwT) × SoT} (hx : y_Solver_hasKey_p0 sn sx M q T D r L F P oo e) (hM : j_Solver_hasKey_173 fu (g_Solver fu dd).1 (g_Solver fu dd).2 B V R S (0 : Int32) x6 = some e) : am_ev 11 k_Solver_hasKey (173, [.ref 142, am_ju, .int (0 : Int32), am_ju, am_ju, am_ju, .int x6, am_ju], [], (zl sn sx, xa xm T D r B (xb V L F R S P), M, q)) oo := by
  unfold j_Solver_hasKey_173 at hM
  obtain ⟨c2, hM⟩ := am_ifn hM
  refine am_ev.kc 5 181 [.ref 142, am_ju, .int (0 : Int32), am_ju, am_ju, am_ju, .int x6, am_ju] [] (zl sn sx, xa xm T D r B (xb V L F R ((upd (so_hints S) ((0 : Int32)).toNatClampNeg x6), (so_kind S), (so_goal S)) P), M, q) c2 (fun _ _ => rfl) ?_
  cases hM
  cases hx
  exact am_ev.kf 2 (fun _ _ => rfl)
theorem sj_Solver_hasKey_p0_158 {fu : Nat} {dd : Nat} {sn : Nat} {sx : Nat → Int32} {M : List am_C} {q : Nat × Nat} {T : TxT} {D : BdT} {r : RdT} {B : BdT} {V : MvT} {L : RwT} {F : RwT} {R : Nat → RwT} {S : SoT} {P : HeT} {x1 : Int32} {x4 : Int32} {x5 : Int32} {x6 : Int32} {oo : am_O} {e : ((Int32 × BdT × MvT × (Nat → RwT) × SoT)) ⊕ (Int32 × BdT × MvT × (Nat → RwT) × SoT)} {gg : Int32 → BdT → MvT → (Nat → RwT) → SoT → Option (((Int32 × BdT × MvT × (Nat → RwT) × SoT)) ⊕ (Int32 × BdT × MvT × (Nat → RwT) × SoT))} (hx : x_Solver_hasKey_p0_83 sn sx M q T D r L F P x1 x4 oo e) (hg : ∀ (x5 : Int32) (B : BdT) (V : MvT) (R : Nat → RwT) (S : SoT), gg x5 B V R S = some e → am_ev 11 k_Solver_hasKey (83, [.ref 142, .int x1, .int (0 : Int32), .ref 130, .int x4, .int x5, am_ju, am_ju], [], (zl sn sx, xa xm T D r B (xb V L F R S P), M, q)) oo) (hM : j_Solver_hasKey_158 fu (g_Solver fu dd).1 (g_Solver fu dd).2 gg B V R S x1 (0 : Int32) x4 x5 x6 = some e) : am_ev 11 k_Solver_hasKey (158, [.ref 142, .int x1, .int (0 : Int32), .ref 130, .int x4, .int x5, .int x6, am_ju], [], (zl sn sx, xa xm T D r B (xb V L F R S P), M, q)) oo := by
  unfold j_Solver_hasKey_158 at hM
  refine am_ev.kg 1 (pc' := 159) (lv' := [.ref 142, .int x1, .int (0 : Int32), .ref 130, .int x4, .int x5, .int x6, am_ju]) (st' := [.int (0 : Int32)]) (h' := (zl sn sx, xa xm T D r B (xb V L F R S P), M, q)) (fun _ _ => rfl) ?_
  exact sj_Solver_hasKey_p0_159 hx hg hM
theorem sj_Solver_hasKey_p0_154 {fu : Nat} {dd : Nat} {sn : Nat} {sx : Nat → Int32} {M : List am_C} {q : Nat × Nat} {T : TxT} {D : BdT} {r : RdT} {B : BdT} {V : MvT} {L : RwT} {F : RwT} {R : Nat → RwT} {S : SoT} {P : HeT} {x1 : Int32} {x4 : Int32} {x5 : Int32} {x6 : Int32} {oo : am_O} {e : ((Int32 × BdT × MvT × (Nat → RwT) × SoT)) ⊕ (Int32 × BdT × MvT × (Nat → RwT) × SoT)} {gg : Int32 → BdT → MvT → (Nat → RwT) → SoT → Option (((Int32 × BdT × MvT × (Nat → RwT) × SoT)) ⊕ (Int32 × BdT × MvT × (Nat → RwT) × SoT))} (hx : x_Solver_hasKey_p0_83 sn sx M q T D r L F P x1 x4 oo e) (hg : ∀ (x5 : Int32) (B : BdT) (V : MvT) (R : Nat → RwT) (S : SoT), gg x5 B V R S = some e → am_ev 11 k_Solver_hasKey (83, [.ref 142, .int x1, .int (0 : Int32), .ref 130, .int x4, .int x5, am_ju, am_ju], [], (zl sn sx, xa xm T D r B (xb V L F R S P), M, q)) oo) (hM : j_Solver_hasKey_154 fu (g_Solver fu dd).1 (g_Solver fu dd).2 gg B V R S x1 (0 : Int32) x4 x5 x6 = some e) : am_ev 11 k_Solver_hasKey (154, [.ref 142, .int x1, .int (0 : Int32), .ref 130, .int x4, .int x5, .int x6, am_ju], [], (zl sn sx, xa xm T D r B (xb V L F R S P), M, q)) oo := by
  unfold j_Solver_hasKey_154 at hM
  refine am_ev.kg 2 (pc' := 159) (lv' := [.ref 142, .int x1, .int (0 : Int32), .ref 130, .int x4, .int x5, .int x6, am_ju]) (st' := [.int (1 : Int32)]) (h' := (zl sn sx, xa xm T D r B (xb V L F R S P), M, q)) (fun _ _ => rfl) ?_
  exact sj_Solver_hasKey_p0_159 hx hg hM
theorem sb_Solver_hasKey_p0_83 {fu : Nat} {dd : Nat} {sn : Nat} {sx : Nat → Int32} {M : List am_C} {q : Nat × Nat} {T : TxT} {D : BdT} {r : RdT} {L : RwT} {F : RwT} {P : HeT} {x1 : Int32} {x4 : Int32} {oo : am_O} {e : ((Int32 × BdT × MvT × (Nat → RwT) × SoT)) ⊕ (Int32 × BdT × MvT × (Nat → RwT) × SoT)} {gg : Int32 → BdT → MvT → (Nat → RwT) → SoT → Option (((Int32 × BdT × MvT × (Nat → RwT) × SoT)) ⊕ (Int32 × BdT × MvT × (Nat → RwT) × SoT))} (hx : x_Solver_hasKey_p0_83 sn sx M q T D r L F P x1 x4 oo e) (hg : ∀ (x5 : Int32) (B : BdT) (V : MvT) (R : Nat → RwT) (S : SoT), gg x5 B V R S = some e → am_ev 11 k_Solver_hasKey (83, [.ref 142, .int x1, .int (0 : Int32), .ref 130, .int x4, .int x5, am_ju, am_ju], [], (zl sn sx, xa xm T D r B (xb V L F R S P), M, q)) oo) {x5 : Int32} {B : BdT} {V : MvT} {R : Nat → RwT} {S : SoT} (hM : b_Solver_hasKey_83 fu (g_Solver fu dd).1 (g_Solver fu dd).2 x1 (0 : Int32) x4 gg x5 B V R S = some e) : am_ev 11 k_Solver_hasKey (83, [.ref 142, .int x1, .int (0 : Int32), .ref 130, .int x4, .int x5, am_ju, am_ju], [], (zl sn sx, xa xm T D r B (xb V L F R S P), M, q)) oo := by
  unfold b_Solver_hasKey_83 at hM
  rcases am_if hM with ⟨c3, hM⟩ | ⟨c3, hM⟩
  · refine am_ev.kt 4 189 92 [.ref 142, .int x1, .int (0 : Int32), .ref 130, .int x4, .int x5, am_ju, am_ju] [] (zl sn sx, xa xm T D r B (xb V L F R S P), M, q) c3 (fun _ _ => rfl) ?_
    cases hM
    cases hx
    exact am_ev.kf 2 (fun _ _ => rfl)
  · refine am_ev.ke 4 189 92 [.ref 142, .int x1, .int (0 : Int32), .ref 130, .int x4, .int x5, am_ju, am_ju] [] (zl sn sx, xa xm T D r B (xb V L F R S P), M, q) c3 (fun _ _ => rfl) ?_
    obtain ⟨c4, hM⟩ := am_ifn hM
    refine am_ev.kc 4 99 [.ref 142, .int x1, .int (0 : Int32), .ref 130, .int x4, .int x5, am_ju, am_ju] [.int ((rw_told (R ((0 : Int32)).toNatClampNeg)) (x5).toNatClampNeg)] (zl sn sx, xa xm T D r B (xb V L F R S P), M, q) c4 (fun _ _ => rfl) ?_
    obtain ⟨rr, hc, hM⟩ := am_bind hM
    obtain ⟨bg5, rfl⟩ : ∃ z, z = rr := ⟨_, rfl⟩
    refine am_ev.kg 4 (pc' := 107) (lv' := [.ref 142, .int x1, .int (0 : Int32), .ref 130, .int x4, .int x5, .int ((rw_told (R ((0 : Int32)).toNatClampNeg)) (x5).toNatClampNeg), am_ju]) (st' := [.int ((rw_told (R ((0 : Int32)).toNatClampNeg)) (x5).toNatClampNeg), .ref 114]) (h' := (zl sn sx, xa xm T D r B (xb V L F R S P), M, q)) (fun _ _ => rfl) ?_
    refine am_ev.call rfl rfl rfl ((s_Board_make_B hc).mono (by decide)) ?_
    show am_ev _ k_Solver_hasKey (110, [.ref 142, .int x1, .int (0 : Int32), .ref 130, .int x4, .int x5, .int ((rw_told (R ((0 : Int32)).toNatClampNeg)) (x5).toNatClampNeg), am_ju], [], (zl sn sx, xa xm T D r bg5 (xb V L F R S P), M, q)) oo
    obtain ⟨rr, hc, hM⟩ := am_bind hM
    obtain ⟨r6, rfl⟩ : ∃ z, z = rr := ⟨_, rfl⟩
    refine am_ev.kg 2 (pc' := 114) (lv' := [.ref 142, .int x1, .int (0 : Int32), .ref 130, .int x4, .int x5, .int ((rw_told (R ((0 : Int32)).toNatClampNeg)) (x5).toNatClampNeg), am_ju]) (st' := [.ref 114]) (h' := (zl sn sx, xa xm T D r bg5 (xb V L F R S P), M, q)) (fun _ _ => rfl) ?_
    refine am_ev.call rfl rfl rfl ((s_Board_isLegal_B hc).mono (by decide)) ?_
    show am_ev _ k_Solver_hasKey (117, [.ref 142, .int x1, .int (0 : Int32), .ref 130, .int x4, .int x5, .int ((rw_told (R ((0 : Int32)).toNatClampNeg)) (x5).toNatClampNeg), am_ju], [.int r6], (zl sn sx, xa xm T D r bg5 (xb V L F R S P), M, q)) oo
    rcases am_if hM with ⟨c5, hM⟩ | ⟨c5, hM⟩
    · refine am_ev.kt 1 158 120 [.ref 142, .int x1, .int (0 : Int32), .ref 130, .int x4, .int x5, .int ((rw_told (R ((0 : Int32)).toNatClampNeg)) (x5).toNatClampNeg), am_ju] [] (zl sn sx, xa xm T D r bg5 (xb V L F R S P), M, q) c5 (fun _ _ => rfl) ?_
      exact sj_Solver_hasKey_p0_158 hx hg hM
    · refine am_ev.ke 1 158 120 [.ref 142, .int x1, .int (0 : Int32), .ref 130, .int x4, .int x5, .int ((rw_told (R ((0 : Int32)).toNatClampNeg)) (x5).toNatClampNeg), am_ju] [] (zl sn sx, xa xm T D r bg5 (xb V L F R S P), M, q) c5 (fun _ _ => rfl) ?_
      rcases am_if hM with ⟨c6, hM⟩ | ⟨c6, hM⟩
      · refine am_ev.kt 2 142 125 [.ref 142, .int x1, .int (0 : Int32), .ref 130, .int x4, .int x5, .int ((rw_told (R ((0 : Int32)).toNatClampNeg)) (x5).toNatClampNeg), am_ju] [] (zl sn sx, xa xm T D r bg5 (xb V L F R S P), M, q) c6 (fun _ _ => rfl) ?_
        obtain ⟨rr, hc, hM⟩ := am_bind hM
        obtain ⟨r7, bg8, vg9, rg10, sg11⟩ := rr
        refine am_ev.kg 5 (pc' := 147) (lv' := [.ref 142, .int x1, .int (0 : Int32), .ref 130, .int x4, .int x5, .int ((rw_told (R ((0 : Int32)).toNatClampNeg)) (x5).toNatClampNeg), am_ju]) (st' := [.int ((0 : Int32) + (1 : Int32)), .int x1, .ref 142]) (h' := (zl sn sx, xa xm T D r bg5 (xb V L F R S P), M, q)) (fun _ _ => rfl) ?_
        refine am_ev.call rfl rfl rfl ((s_Solver_refutation_p1 hc).mono (by decide)) ?_
        show am_ev _ k_Solver_hasKey (150, [.ref 142, .int x1, .int (0 : Int32), .ref 130, .int x4, .int x5, .int ((rw_told (R ((0 : Int32)).toNatClampNeg)) (x5).toNatClampNeg), am_ju], [.int r7], (zl sn sx, xa xm T D r bg8 (xb vg9 L F rg10 sg11 P), M, q)) oo
        rcases am_if hM with ⟨c7, hM⟩ | ⟨c7, hM⟩
        · refine am_ev.kt 2 158 154 [.ref 142, .int x1, .int (0 : Int32), .ref 130, .int x4, .int x5, .int ((rw_told (R ((0 : Int32)).toNatClampNeg)) (x5).toNatClampNeg), am_ju] [] (zl sn sx, xa xm T D r bg8 (xb vg9 L F rg10 sg11 P), M, q) c7 (fun _ _ => rfl) ?_
          exact sj_Solver_hasKey_p0_158 hx hg hM
        · refine am_ev.ke 2 158 154 [.ref 142, .int x1, .int (0 : Int32), .ref 130, .int x4, .int x5, .int ((rw_told (R ((0 : Int32)).toNatClampNeg)) (x5).toNatClampNeg), am_ju] [] (zl sn sx, xa xm T D r bg8 (xb vg9 L F rg10 sg11 P), M, q) c7 (fun _ _ => rfl) ?_
          exact sj_Solver_hasKey_p0_154 hx hg hM
      · refine am_ev.ke 2 142 125 [.ref 142, .int x1, .int (0 : Int32), .ref 130, .int x4, .int x5, .int ((rw_told (R ((0 : Int32)).toNatClampNeg)) (x5).toNatClampNeg), am_ju] [] (zl sn sx, xa xm T D r bg5 (xb V L F R S P), M, q) c6 (fun _ _ => rfl) ?_
        obtain ⟨rr, hc, hM⟩ := am_bind hM
        obtain ⟨r12, bg13⟩ := rr
        refine am_ev.kg 4 (pc' := 133) (lv' := [.ref 142, .int x1, .int (0 : Int32), .ref 130, .int x4, .int x5, .int ((rw_told (R ((0 : Int32)).toNatClampNeg)) (x5).toNatClampNeg), am_ju]) (st' := [.int (so_goal S), .ref 123]) (h' := (zl sn sx, xa xm T D r bg5 (xb V L F R S P), M, q)) (fun _ _ => rfl) ?_
        refine am_ev.call rfl rfl rfl ((s_Mover_isBeaten hc).mono (by decide)) ?_
        show am_ev _ k_Solver_hasKey (136, [.ref 142, .int x1, .int (0 : Int32), .ref 130, .int x4, .int x5, .int ((rw_told (R ((0 : Int32)).toNatClampNeg)) (x5).toNatClampNeg), am_ju], [.int r12], (zl sn sx, xa xm T D r bg13 (xb V L F R S P), M, q)) oo
        rcases am_if hM with ⟨c8, hM⟩ | ⟨c8, hM⟩
        · refine am_ev.kt 1 158 139 [.ref 142, .int x1, .int (0 : Int32), .ref 130, .int x4, .int x5, .int ((rw_told (R ((0 : Int32)).toNatClampNeg)) (x5).toNatClampNeg), am_ju] [] (zl sn sx, xa xm T D r bg13 (xb V L F R S P), M, q) c8 (fun _ _ => rfl) ?_
          exact sj_Solver_hasKey_p0_158 hx hg hM
        · refine am_ev.ke 1 158 139 [.ref 142, .int x1, .int (0 : Int32), .ref 130, .int x4, .int x5, .int ((rw_told (R ((0 : Int32)).toNatClampNeg)) (x5).toNatClampNeg), am_ju] [] (zl sn sx, xa xm T D r bg13 (xb V L F R S P), M, q) c8 (fun _ _ => rfl) ?_
          refine am_ev.kg 1 (pc' := 154) (lv' := [.ref 142, .int x1, .int (0 : Int32), .ref 130, .int x4, .int x5, .int ((rw_told (R ((0 : Int32)).toNatClampNeg)) (x5).toNatClampNeg), am_ju]) (st' := []) (h' := (zl sn sx, xa xm T D r bg13 (xb V L F R S P), M, q)) (fun _ _ => rfl) ?_
          exact sj_Solver_hasKey_p0_154 hx hg hM
theorem sl_Solver_hasKey_p0_83 {fu : Nat} {dd : Nat} {sn : Nat} {sx : Nat → Int32} {M : List am_C} {q : Nat × Nat} {T : TxT} {D : BdT} {r : RdT} {L : RwT} {F : RwT} {P : HeT} {x1 : Int32} {x4 : Int32} {oo : am_O} {e : ((Int32 × BdT × MvT × (Nat → RwT) × SoT)) ⊕ (Int32 × BdT × MvT × (Nat → RwT) × SoT)} (hx : x_Solver_hasKey_p0_83 sn sx M q T D r L F P x1 x4 oo e) : ∀ (n : Nat) (x5 : Int32) (B : BdT) (V : MvT) (R : Nat → RwT) (S : SoT), l_Solver_hasKey_83 fu (g_Solver fu dd).1 (g_Solver fu dd).2 x1 (0 : Int32) x4 n x5 B V R S = some e → am_ev 11 k_Solver_hasKey (83, [.ref 142, .int x1, .int (0 : Int32), .ref 130, .int x4, .int x5, am_ju, am_ju], [], (zl sn sx, xa xm T D r B (xb V L F R S P), M, q)) oo
  | 0, _, _, _, _, _, hM => by have h : (none : Option (((Int32 × BdT × MvT × (Nat → RwT) × SoT)) ⊕ (Int32 × BdT × MvT × (Nat → RwT) × SoT))) = some e := hM; cases h
  | n + 1, _, _, _, _, _, hM => sb_Solver_hasKey_p0_83 hx (fun _ _ _ _ _ hM => sl_Solver_hasKey_p0_83 hx n _ _ _ _ _ hM) hM
theorem sj_Solver_hasKey_p0_70 {fu : Nat} {dd : Nat} {sn : Nat} {sx : Nat → Int32} {M : List am_C} {q : Nat × Nat} {T : TxT} {D : BdT} {r : RdT} {B : BdT} {V : MvT} {L : RwT} {F : RwT} {R : Nat → RwT} {S : SoT} {P : HeT} {x1 : Int32} {x4 : Int32} {oo : am_O} {e : Int32 × BdT × MvT × (Nat → RwT) × SoT} (hx : y_Solver_hasKey_p0 sn sx M q T D r L F P oo e) (hM : j_Solver_hasKey_70 fu (g_Solver fu dd).1 (g_Solver fu dd).2 B V R S x1 (0 : Int32) x4 = some e) : am_ev 11 k_Solver_hasKey (70, [.ref 142, .int x1, .int (0 : Int32), .ref 130, .int x4, am_ju, am_ju, am_ju], [], (zl sn sx, xa xm T D r B (xb V L F R S P), M, q)) oo := by
  unfold j_Solver_hasKey_70 at hM
  obtain ⟨c9, hM⟩ := am_ifn hM
  refine am_ev.kc 5 77 [.ref 142, .int x1, .int (0 : Int32), .ref 130, .int x4, am_ju, am_ju, am_ju] [.int ((so_hints S) ((0 : Int32)).toNatClampNeg), .ref 130] (zl sn sx, xa xm T D r B (xb V L F R S P), M, q) c9 (fun _ _ => rfl) ?_
  obtain ⟨rr, hc, hM⟩ := am_bind hM
  obtain ⟨wg4, rfl⟩ : ∃ z, z = rr := ⟨_, rfl⟩
  refine am_ev.call rfl rfl rfl ((s_MoveRow_bringFirst_R0x hc).mono (by decide)) ?_
  show am_ev _ k_Solver_hasKey (80, [.ref 142, .int x1, .int (0 : Int32), .ref 130, .int x4, am_ju, am_ju, am_ju], [], (zl sn sx, xa xm T D r B (xb V L F (va_up R ((0 : Int32)).toNatClampNeg wg4) S P), M, q)) oo
  refine am_ev.kg 2 (pc' := 83) (lv' := [.ref 142, .int x1, .int (0 : Int32), .ref 130, .int x4, .int (0 : Int32), am_ju, am_ju]) (st' := []) (h' := (zl sn sx, xa xm T D r B (xb V L F (va_up R ((0 : Int32)).toNatClampNeg wg4) S P), M, q)) (fun _ _ => rfl) ?_
  obtain ⟨z, hz, hM⟩ := am_bind hM
  rcases z with z | z
  ·
    obtain ⟨x6_1, bz_1, vz_1, rz_1, sz_1⟩ := z
    refine sl_Solver_hasKey_p0_83 ?_ _ _ _ _ _ _ hz
    show am_ev 11 k_Solver_hasKey (173, [.ref 142, am_ju, .int (0 : Int32), am_ju, am_ju, am_ju, .int x6_1, am_ju], [], (zl sn sx, xa xm T D r bz_1 (xb vz_1 L F rz_1 sz_1 P), M, q)) oo
    exact sj_Solver_hasKey_p0_173 hx hM
  ·
    obtain ⟨ov, oB, oV, oR, oS⟩ := z
    cases hM
    refine sl_Solver_hasKey_p0_83 ?_ _ _ _ _ _ _ hz
    exact hx
theorem sj_Solver_hasKey_p0_62 {fu : Nat} {dd : Nat} {sn : Nat} {sx : Nat → Int32} {M : List am_C} {q : Nat × Nat} {T : TxT} {D : BdT} {r : RdT} {B : BdT} {V : MvT} {L : RwT} {F : RwT} {R : Nat → RwT} {S : SoT} {P : HeT} {x1 : Int32} {x4 : Int32} {oo : am_O} {e : Int32 × BdT × MvT × (Nat → RwT) × SoT} (hx : y_Solver_hasKey_p0 sn sx M q T D r L F P oo e) (hM : j_Solver_hasKey_62 fu (g_Solver fu dd).1 (g_Solver fu dd).2 B V R S x1 (0 : Int32) x4 = some e) : am_ev 11 k_Solver_hasKey (62, [.ref 142, .int x1, .int (0 : Int32), .ref 130, .int x4, am_ju, am_ju, am_ju], [], (zl sn sx, xa xm T D r B (xb V L F R S P), M, q)) oo := by
  unfold j_Solver_hasKey_62 at hM
  obtain ⟨rr, hc, hM⟩ := am_bind hM
  obtain ⟨wg3, rfl⟩ : ∃ z, z = rr := ⟨_, rfl⟩
  refine am_ev.kg 3 (pc' := 67) (lv' := [.ref 142, .int x1, .int (0 : Int32), .ref 130, .int x4, am_ju, am_ju, am_ju]) (st' := [.ref 130, .ref 123]) (h' := (zl sn sx, xa xm T D r B (xb V L F R S P), M, q)) (fun _ _ => rfl) ?_
  refine am_ev.call rfl rfl rfl ((s_Mover_fill_R0x hc).mono (by decide)) ?_
  show am_ev _ k_Solver_hasKey (70, [.ref 142, .int x1, .int (0 : Int32), .ref 130, .int x4, am_ju, am_ju, am_ju], [], (zl sn sx, xa xm T D r B (xb V L F (va_up R ((0 : Int32)).toNatClampNeg wg3) S P), M, q)) oo
  exact sj_Solver_hasKey_p0_70 hx hM
theorem sj_Solver_hasKey_p0_37 {fu : Nat} {dd : Nat} {sn : Nat} {sx : Nat → Int32} {M : List am_C} {q : Nat × Nat} {T : TxT} {D : BdT} {r : RdT} {B : BdT} {V : MvT} {L : RwT} {F : RwT} {R : Nat → RwT} {S : SoT} {P : HeT} {x1 : Int32} {s0 : Int32} {oo : am_O} {e : Int32 × BdT × MvT × (Nat → RwT) × SoT} (hx : y_Solver_hasKey_p0 sn sx M q T D r L F P oo e) (hM : j_Solver_hasKey_37 fu (g_Solver fu dd).1 (g_Solver fu dd).2 B V R S x1 (0 : Int32) s0 = some e) : am_ev 11 k_Solver_hasKey (37, [.ref 142, .int x1, .int (0 : Int32), .ref 130, am_ju, am_ju, am_ju, am_ju], [.int s0], (zl sn sx, xa xm T D r B (xb V L F R S P), M, q)) oo := by
  unfold j_Solver_hasKey_37 at hM
  rcases am_if hM with ⟨c10, hM⟩ | ⟨c10, hM⟩
  · refine am_ev.kt 3 62 44 [.ref 142, .int x1, .int (0 : Int32), .ref 130, .int s0, am_ju, am_ju, am_ju] [] (zl sn sx, xa xm T D r B (xb V L F R S P), M, q) c10 (fun _ _ => rfl) ?_
    exact sj_Solver_hasKey_p0_62 hx hM
  · refine am_ev.ke 3 62 44 [.ref 142, .int x1, .int (0 : Int32), .ref 130, .int s0, am_ju, am_ju, am_ju] [] (zl sn sx, xa xm T D r B (xb V L F R S P), M, q) c10 (fun _ _ => rfl) ?_
    rcases am_if hM with ⟨c11, hM⟩ | ⟨c11, hM⟩
    · refine am_ev.kt 3 62 51 [.ref 142, .int x1, .int (0 : Int32), .ref 130, .int s0, am_ju, am_ju, am_ju] [] (zl sn sx, xa xm T D r B (xb V L F R S P), M, q) c11 (fun _ _ => rfl) ?_
      exact sj_Solver_hasKey_p0_62 hx hM
    · refine am_ev.ke 3 62 51 [.ref 142, .int x1, .int (0 : Int32), .ref 130, .int s0, am_ju, am_ju, am_ju] [] (zl sn sx, xa xm T D r B (xb V L F R S P), M, q) c11 (fun _ _ => rfl) ?_
      obtain ⟨rr, hc, hM⟩ := am_bind hM
      obtain ⟨wg1, vg2⟩ := rr
      refine am_ev.kg 3 (pc' := 56) (lv' := [.ref 142, .int x1, .int (0 : Int32), .ref 130, .int s0, am_ju, am_ju, am_ju]) (st' := [.ref 130, .ref 123]) (h' := (zl sn sx, xa xm T D r B (xb V L F R S P), M, q)) (fun _ _ => rfl) ?_
      refine am_ev.call rfl rfl rfl ((s_Mover_fillChecks_R0x hc).mono (by decide)) ?_
      show am_ev _ k_Solver_hasKey (59, [.ref 142, .int x1, .int (0 : Int32), .ref 130, .int s0, am_ju, am_ju, am_ju], [], (zl sn sx, xa xm T D r B (xb vg2 L F (va_up R ((0 : Int32)).toNatClampNeg wg1) S P), M, q)) oo
      refine am_ev.kg 1 (pc' := 70) (lv' := [.ref 142, .int x1, .int (0 : Int32), .ref 130, .int s0, am_ju, am_ju, am_ju]) (st' := []) (h' := (zl sn sx, xa xm T D r B (xb vg2 L F (va_up R ((0 : Int32)).toNatClampNeg wg1) S P), M, q)) (fun _ _ => rfl) ?_
      exact sj_Solver_hasKey_p0_70 hx hM
theorem sj_Solver_hasKey_p0_36 {fu : Nat} {dd : Nat} {sn : Nat} {sx : Nat → Int32} {M : List am_C} {q : Nat × Nat} {T : TxT} {D : BdT} {r : RdT} {B : BdT} {V : MvT} {L : RwT} {F : RwT} {R : Nat → RwT} {S : SoT} {P : HeT} {x1 : Int32} {oo : am_O} {e : Int32 × BdT × MvT × (Nat → RwT) × SoT} (hx : y_Solver_hasKey_p0 sn sx M q T D r L F P oo e) (hM : j_Solver_hasKey_36 fu (g_Solver fu dd).1 (g_Solver fu dd).2 B V R S x1 (0 : Int32) = some e) : am_ev 11 k_Solver_hasKey (36, [.ref 142, .int x1, .int (0 : Int32), .ref 130, am_ju, am_ju, am_ju, am_ju], [], (zl sn sx, xa xm T D r B (xb V L F R S P), M, q)) oo := by
  unfold j_Solver_hasKey_36 at hM
  refine am_ev.kg 1 (pc' := 37) (lv' := [.ref 142, .int x1, .int (0 : Int32), .ref 130, am_ju, am_ju, am_ju, am_ju]) (st' := [.int (0 : Int32)]) (h' := (zl sn sx, xa xm T D r B (xb V L F R S P), M, q)) (fun _ _ => rfl) ?_
  exact sj_Solver_hasKey_p0_37 hx hM
theorem se_Solver_hasKey_p0 {fu : Nat} {dd : Nat} {sn : Nat} {sx : Nat → Int32} {M : List am_C} {q : Nat × Nat} {T : TxT} {D : BdT} {r : RdT} {B : BdT} {V : MvT} {L : RwT} {F : RwT} {R : Nat → RwT} {S : SoT} {P : HeT} {x1 : Int32} {oo : am_O} {e : Int32 × BdT × MvT × (Nat → RwT) × SoT} (hx : y_Solver_hasKey_p0 sn sx M q T D r L F P oo e) (hM : e_Solver_hasKey fu (g_Solver fu dd).1 (g_Solver fu dd).2 x1 (0 : Int32) B V R S = some e) : am_ev 11 k_Solver_hasKey (0, [.ref 142, .int x1, .int (0 : Int32), am_ju, am_ju, am_ju, am_ju, am_ju], [], (zl sn sx, xa xm T D r B (xb V L F R S P), M, q)) oo := by
  unfold e_Solver_hasKey at hM
  rcases am_if hM with ⟨c12, hM⟩ | ⟨c12, hM⟩
  · refine am_ev.kt 3 11 5 [.ref 142, .int x1, .int (0 : Int32), am_ju, am_ju, am_ju, am_ju, am_ju] [] (zl sn sx, xa xm T D r B (xb V L F R S P), M, q) c12 (fun _ _ => rfl) ?_
    cases hM
    cases hx
    exact am_ev.kf 2 (fun _ _ => rfl)
  · refine am_ev.ke 3 11 5 [.ref 142, .int x1, .int (0 : Int32), am_ju, am_ju, am_ju, am_ju, am_ju] [] (zl sn sx, xa xm T D r B (xb V L F R S P), M, q) c12 (fun _ _ => rfl) ?_
    rcases am_if hM with ⟨c13, hM⟩ | ⟨c13, hM⟩
    · refine am_ev.kt 3 13 11 [.ref 142, .int x1, .int (0 : Int32), am_ju, am_ju, am_ju, am_ju, am_ju] [] (zl sn sx, xa xm T D r B (xb V L F R S P), M, q) c13 (fun _ _ => rfl) ?_
      obtain ⟨c14, hM⟩ := am_ifn hM
      refine am_ev.kc 4 19 [.ref 142, .int x1, .int (0 : Int32), am_ju, am_ju, am_ju, am_ju, am_ju] [.ref 130] (zl sn sx, xa xm T D r B (xb V L F R S P), M, q) c14 (fun _ _ => rfl) ?_
      rcases am_if hM with ⟨c15, hM⟩ | ⟨c15, hM⟩
      · refine am_ev.kt 4 36 27 [.ref 142, .int x1, .int (0 : Int32), .ref 130, am_ju, am_ju, am_ju, am_ju] [] (zl sn sx, xa xm T D r B (xb V L F R S P), M, q) c15 (fun _ _ => rfl) ?_
        exact sj_Solver_hasKey_p0_36 hx hM
      · refine am_ev.ke 4 36 27 [.ref 142, .int x1, .int (0 : Int32), .ref 130, am_ju, am_ju, am_ju, am_ju] [] (zl sn sx, xa xm T D r B (xb V L F R S P), M, q) c15 (fun _ _ => rfl) ?_
        rcases am_if hM with ⟨c16, hM⟩ | ⟨c16, hM⟩
        · refine am_ev.kt 3 36 32 [.ref 142, .int x1, .int (0 : Int32), .ref 130, am_ju, am_ju, am_ju, am_ju] [] (zl sn sx, xa xm T D r B (xb V L F R S P), M, q) c16 (fun _ _ => rfl) ?_
          exact sj_Solver_hasKey_p0_36 hx hM
        · refine am_ev.ke 3 36 32 [.ref 142, .int x1, .int (0 : Int32), .ref 130, am_ju, am_ju, am_ju, am_ju] [] (zl sn sx, xa xm T D r B (xb V L F R S P), M, q) c16 (fun _ _ => rfl) ?_
          refine am_ev.kg 2 (pc' := 37) (lv' := [.ref 142, .int x1, .int (0 : Int32), .ref 130, am_ju, am_ju, am_ju, am_ju]) (st' := [.int (1 : Int32)]) (h' := (zl sn sx, xa xm T D r B (xb V L F R S P), M, q)) (fun _ _ => rfl) ?_
          exact sj_Solver_hasKey_p0_37 hx hM
    · exact absurd c13 (by decide)
theorem s_Solver_hasKey_p0 {fu : Nat} {dd : Nat} {sn : Nat} {sx : Nat → Int32} {M : List am_C} {q : Nat × Nat} {T : TxT} {D : BdT} {r : RdT} {B : BdT} {V : MvT} {L : RwT} {F : RwT} {R : Nat → RwT} {S : SoT} {P : HeT} {x1 : Int32} {ov : Int32} {oB : BdT} {oV : MvT} {oR : Nat → RwT} {oS : SoT} (hM : (g_Solver fu dd).1 x1 (0 : Int32) B V R S = some (ov, oB, oV, oR, oS)) : am_cv 12 k_Solver_hasKey [.ref 142, .int x1, .int (0 : Int32)] (zl sn sx, xa xm T D r B (xb V L F R S P), M, q) (.inl (some (.int ov)), (zl sn sx, xa xm T D r oB (xb oV L F oR oS P), M, q)) := by
  cases dd with
  | zero => have h : (none : Option (Int32 × BdT × MvT × (Nat → RwT) × SoT)) = some (ov, oB, oV, oR, oS) := hM; cases h
  | succ dd => exact am_cv.of rfl (se_Solver_hasKey_p0 (e := (ov, oB, oV, oR, oS)) (show y_Solver_hasKey_p0 sn sx M q T D r L F P _ (ov, oB, oV, oR, oS) from rfl) (show e_Solver_hasKey fu (g_Solver fu dd).1 (g_Solver fu dd).2 x1 (0 : Int32) B V R S = some (ov, oB, oV, oR, oS) from hM))
def y_Mp_least (sn : Nat) (sx : Nat → Int32) (M : List am_C) (q : Nat × Nat) (T : TxT) (D : BdT) (r : RdT) (L : RwT) (F : RwT) (P : HeT) (oo : am_O) : (Int32 ⊕ Nat) × BdT × MvT × (Nat → RwT) × SoT → Prop
  | (oe, oB, oV, oR, oS) => oo = (am_out (oe.map (fun v => some (.int v)) id) (zl sn sx, xa xm T D r oB (xb oV L F oR oS P), M, q))
def x_Mp_least_18 (sn : Nat) (sx : Nat → Int32) (M : List am_C) (q : Nat × Nat) (T : TxT) (D : BdT) (r : RdT) (L : RwT) (F : RwT) (P : HeT) (x3 : Int32) (oo : am_O) : (Int32 ⊕ Nat) × BdT × MvT × (Nat → RwT) × SoT → Prop
  | (oe, oB, oV, oR, oS) => oo = (am_out (oe.map (fun v => some (.int v)) id) (zl sn sx, xa xm T D r oB (xb oV L F oR oS P), M, q))
theorem sb_Mp_least_18 {fu : Nat} {sn : Nat} {sx : Nat → Int32} {M : List am_C} {q : Nat × Nat} {T : TxT} {D : BdT} {r : RdT} {L : RwT} {F : RwT} {P : HeT} {x3 : Int32} {oo : am_O} {e : (Int32 ⊕ Nat) × BdT × MvT × (Nat → RwT) × SoT} {gg : Int32 → BdT → MvT → (Nat → RwT) → SoT → Option ((Int32 ⊕ Nat) × BdT × MvT × (Nat → RwT) × SoT)} (hx : x_Mp_least_18 sn sx M q T D r L F P x3 oo e) (hg : ∀ (x4 : Int32) (B : BdT) (V : MvT) (R : Nat → RwT) (S : SoT), gg x4 B V R S = some e → am_ev 12 k_Mp_least (18, [.ref 100, am_ju, am_ju, .int x3, .int x4], [], (zl sn sx, xa xm T D r B (xb V L F R S P), M, q)) oo) {x4 : Int32} {B : BdT} {V : MvT} {R : Nat → RwT} {S : SoT} (hM : b_Mp_least_18 fu x3 gg x4 B V R S = some e) : am_ev 12 k_Mp_least (18, [.ref 100, am_ju, am_ju, .int x3, .int x4], [], (zl sn sx, xa xm T D r B (xb V L F R S P), M, q)) oo := by
  unfold b_Mp_least_18 at hM
  rcases am_if hM with ⟨c1, hM⟩ | ⟨c1, hM⟩
  · refine am_ev.kt 3 46 24 [.ref 100, am_ju, am_ju, .int x3, .int x4] [] (zl sn sx, xa xm T D r B (xb V L F R S P), M, q) c1 (fun _ _ => rfl) ?_
    cases hM
    cases hx
    exact am_ev.kf 2 (fun _ _ => rfl)
  · refine am_ev.ke 3 46 24 [.ref 100, am_ju, am_ju, .int x3, .int x4] [] (zl sn sx, xa xm T D r B (xb V L F R S P), M, q) c1 (fun _ _ => rfl) ?_
    obtain ⟨rr, hc, hM⟩ := am_bind hM
    obtain ⟨r2, bg3, vg4, rg5, sg6⟩ := rr
    refine am_ev.kg 4 (pc' := 31) (lv' := [.ref 100, am_ju, am_ju, .int x3, .int x4]) (st' := [.int (0 : Int32), .int x4, .ref 142]) (h' := (zl sn sx, xa xm T D r B (xb V L F R S P), M, q)) (fun _ _ => rfl) ?_
    refine am_ev.call rfl rfl rfl ((s_Solver_hasKey_p0 hc).mono (by decide)) ?_
    show am_ev _ k_Mp_least (34, [.ref 100, am_ju, am_ju, .int x3, .int x4], [.int r2], (zl sn sx, xa xm T D r bg3 (xb vg4 L F rg5 sg6 P), M, q)) oo
    rcases am_if hM with ⟨c2, hM⟩ | ⟨c2, hM⟩
    · refine am_ev.kt 1 40 37 [.ref 100, am_ju, am_ju, .int x3, .int x4] [] (zl sn sx, xa xm T D r bg3 (xb vg4 L F rg5 sg6 P), M, q) c2 (fun _ _ => rfl) ?_
      refine am_ev.kg 2 (pc' := 18) (lv' := [.ref 100, am_ju, am_ju, .int x3, .int (x4 + (1 : Int32))]) (st' := []) (h' := (zl sn sx, xa xm T D r bg3 (xb vg4 L F rg5 sg6 P), M, q)) (fun _ _ => rfl) ?_
      exact hg _ _ _ _ _ hM
    · refine am_ev.ke 1 40 37 [.ref 100, am_ju, am_ju, .int x3, .int x4] [] (zl sn sx, xa xm T D r bg3 (xb vg4 L F rg5 sg6 P), M, q) c2 (fun _ _ => rfl) ?_
      cases hM
      cases hx
      exact am_ev.kf 2 (fun _ _ => rfl)
theorem sl_Mp_least_18 {fu : Nat} {sn : Nat} {sx : Nat → Int32} {M : List am_C} {q : Nat × Nat} {T : TxT} {D : BdT} {r : RdT} {L : RwT} {F : RwT} {P : HeT} {x3 : Int32} {oo : am_O} {e : (Int32 ⊕ Nat) × BdT × MvT × (Nat → RwT) × SoT} (hx : x_Mp_least_18 sn sx M q T D r L F P x3 oo e) : ∀ (n : Nat) (x4 : Int32) (B : BdT) (V : MvT) (R : Nat → RwT) (S : SoT), l_Mp_least_18 fu x3 n x4 B V R S = some e → am_ev 12 k_Mp_least (18, [.ref 100, am_ju, am_ju, .int x3, .int x4], [], (zl sn sx, xa xm T D r B (xb V L F R S P), M, q)) oo
  | 0, _, _, _, _, _, hM => by have h : (none : Option ((Int32 ⊕ Nat) × BdT × MvT × (Nat → RwT) × SoT)) = some e := hM; cases h
  | n + 1, _, _, _, _, _, hM => sb_Mp_least_18 hx (fun _ _ _ _ _ hM => sl_Mp_least_18 hx n _ _ _ _ _ hM) hM
theorem se_Mp_least {fu : Nat} {sn : Nat} {sx : Nat → Int32} {M : List am_C} {q : Nat × Nat} {T : TxT} {D : BdT} {r : RdT} {B : BdT} {V : MvT} {L : RwT} {F : RwT} {R : Nat → RwT} {S : SoT} {P : HeT} {x1 : Int32} {x2 : Int32} {x3 : Int32} {oo : am_O} {e : (Int32 ⊕ Nat) × BdT × MvT × (Nat → RwT) × SoT} (hx : y_Mp_least sn sx M q T D r L F P oo e) (hM : f_Mp_least fu x1 x2 x3 B V R S = some e) : am_ev 12 k_Mp_least (0, [.ref 100, .int x1, .int x2, .int x3, am_ju], [], (zl sn sx, xa xm T D r B (xb V L F R S P), M, q)) oo := by
  unfold f_Mp_least at hM
  obtain ⟨rr, hc, hM⟩ := am_bind hM
  obtain ⟨a0, rfl⟩ : ∃ z, z = rr := ⟨_, rfl⟩
  refine am_ev.kg 3 (pc' := 3) (lv' := [.ref 100, .int x1, .int x2, .int x3, am_ju]) (st' := [.int x3, .int x2, .int x1]) (h' := (zl sn sx, xa xm T D r B (xb V L F R S P), M, q)) (fun _ _ => rfl) ?_
  rcases a0 with u0 | e0
  · refine am_ev.call rfl rfl rfl ((s_Mp_checkProblem hc).mono (by decide)) ?_
    show am_ev _ k_Mp_least (6, [.ref 100, .int x1, .int x2, .int x3, am_ju], [], (zl sn sx, xa xm T D r B (xb V L F R S P), M, q)) oo
    obtain ⟨rr, hc, hM⟩ := am_bind hM
    obtain ⟨sg1, rfl⟩ : ∃ z, z = rr := ⟨_, rfl⟩
    refine am_ev.kg 4 (pc' := 12) (lv' := [.ref 100, .int x1, .int x2, .int x3, am_ju]) (st' := [.int x2, .int x1, .ref 142]) (h' := (zl sn sx, xa xm T D r B (xb V L F R S P), M, q)) (fun _ _ => rfl) ?_
    refine am_ev.call rfl rfl rfl ((s_Solver_ask hc).mono (by decide)) ?_
    show am_ev _ k_Mp_least (15, [.ref 100, .int x1, .int x2, .int x3, am_ju], [], (zl sn sx, xa xm T D r B (xb V L F R sg1 P), M, q)) oo
    refine am_ev.kg 2 (pc' := 18) (lv' := [.ref 100, .int x1, .int x2, .int x3, .int (1 : Int32)]) (st' := []) (h' := (zl sn sx, xa xm T D r B (xb V L F R sg1 P), M, q)) (fun _ _ => rfl) ?_
    refine am_ev.wk (lv' := [.ref 100, am_ju, am_ju, .int x3, .int (1 : Int32)]) (am_lc (Or.inr rfl) (am_lc (Or.inl rfl) (am_lc (Or.inl rfl) (am_lc (Or.inr rfl) (am_lc (Or.inr rfl) am_ln))))) ?_
    obtain ⟨oe, oB, oV, oR, oS⟩ := e
    refine sl_Mp_least_18 ?_ _ _ _ _ _ _ hM
    exact hx
  · cases hM
    cases hx
    exact am_ev.thrw rfl rfl rfl rfl rfl ((s_Mp_checkProblem hc).mono (by decide))
theorem s_Mp_least {fu : Nat} {sn : Nat} {sx : Nat → Int32} {M : List am_C} {q : Nat × Nat} {T : TxT} {D : BdT} {r : RdT} {B : BdT} {V : MvT} {L : RwT} {F : RwT} {R : Nat → RwT} {S : SoT} {P : HeT} {x1 : Int32} {x2 : Int32} {x3 : Int32} {oe : (Int32 ⊕ Nat)} {oB : BdT} {oV : MvT} {oR : Nat → RwT} {oS : SoT} (hM : f_Mp_least fu x1 x2 x3 B V R S = some (oe, oB, oV, oR, oS)) : am_cv 13 k_Mp_least [.ref 100, .int x1, .int x2, .int x3] (zl sn sx, xa xm T D r B (xb V L F R S P), M, q) (am_out (oe.map (fun v => some (.int v)) id) (zl sn sx, xa xm T D r oB (xb oV L F oR oS P), M, q)) := am_cv.of rfl (se_Mp_least (e := (oe, oB, oV, oR, oS)) (show y_Mp_least sn sx M q T D r L F P _ (oe, oB, oV, oR, oS) from rfl) hM)
def y_Mp_refuted (sn : Nat) (sx : Nat → Int32) (M : List am_C) (q : Nat × Nat) (T : TxT) (D : BdT) (r : RdT) (L : RwT) (F : RwT) (P : HeT) (oo : am_O) : (Int32 ⊕ Nat) × BdT × MvT × (Nat → RwT) × SoT → Prop
  | (oe, oB, oV, oR, oS) => oo = (am_out (oe.map (fun v => some (.int v)) id) (zl sn sx, xa xm T D r oB (xb oV L F oR oS P), M, q))
theorem se_Mp_refuted {fu : Nat} {sn : Nat} {sx : Nat → Int32} {M : List am_C} {q : Nat × Nat} {T : TxT} {D : BdT} {r : RdT} {B : BdT} {V : MvT} {L : RwT} {F : RwT} {R : Nat → RwT} {S : SoT} {P : HeT} {x1 : Int32} {x2 : Int32} {x3 : Int32} {x4 : Int32} {oo : am_O} {e : (Int32 ⊕ Nat) × BdT × MvT × (Nat → RwT) × SoT} (hx : y_Mp_refuted sn sx M q T D r L F P oo e) (hM : f_Mp_refuted fu x1 x2 x3 x4 B V L R S = some e) : am_ev 11 k_Mp_refuted (0, [.ref 100, .int x1, .int x2, .int x3, .int x4, am_ju], [], (zl sn sx, xa xm T D r B (xb V L F R S P), M, q)) oo := by
  unfold f_Mp_refuted at hM
  obtain ⟨rr, hc, hM⟩ := am_bind hM
  obtain ⟨a0, rfl⟩ : ∃ z, z = rr := ⟨_, rfl⟩
  refine am_ev.kg 3 (pc' := 3) (lv' := [.ref 100, .int x1, .int x2, .int x3, .int x4, am_ju]) (st' := [.int x3, .int x2, .int x1]) (h' := (zl sn sx, xa xm T D r B (xb V L F R S P), M, q)) (fun _ _ => rfl) ?_
  rcases a0 with u0 | e0
  · refine am_ev.call rfl rfl rfl ((s_Mp_checkProblem hc).mono (by decide)) ?_
    show am_ev _ k_Mp_refuted (6, [.ref 100, .int x1, .int x2, .int x3, .int x4, am_ju], [], (zl sn sx, xa xm T D r B (xb V L F R S P), M, q)) oo
    obtain ⟨rr, hc, hM⟩ := am_bind hM
    obtain ⟨r1, rfl⟩ : ∃ z, z = rr := ⟨_, rfl⟩
    refine am_ev.kg 3 (pc' := 12) (lv' := [.ref 100, .int x1, .int x2, .int x3, .int x4, am_ju]) (st' := [.int x4, .ref 125]) (h' := (zl sn sx, xa xm T D r B (xb V L F R S P), M, q)) (fun _ _ => rfl) ?_
    refine am_ev.call rfl rfl rfl ((s_MoveRow_has_L hc).mono (by decide)) ?_
    show am_ev _ k_Mp_refuted (15, [.ref 100, .int x1, .int x2, .int x3, .int x4, am_ju], [.int r1], (zl sn sx, xa xm T D r B (xb V L F R S P), M, q)) oo
    rcases am_if hM with ⟨c1, hM⟩ | ⟨c1, hM⟩
    · refine am_ev.kt 1 28 18 [.ref 100, .int x1, .int x2, .int x3, .int x4, am_ju] [] (zl sn sx, xa xm T D r B (xb V L F R S P), M, q) c1 (fun _ _ => rfl) ?_
      obtain ⟨rr, hc, hM⟩ := am_bind hM
      obtain ⟨sg2, rfl⟩ : ∃ z, z = rr := ⟨_, rfl⟩
      refine am_ev.kg 4 (pc' := 34) (lv' := [.ref 100, .int x1, .int x2, .int x3, .int x4, am_ju]) (st' := [.int x2, .int x1, .ref 142]) (h' := (zl sn sx, xa xm T D r B (xb V L F R S P), M, q)) (fun _ _ => rfl) ?_
      refine am_ev.call rfl rfl rfl ((s_Solver_ask hc).mono (by decide)) ?_
      show am_ev _ k_Mp_refuted (37, [.ref 100, .int x1, .int x2, .int x3, .int x4, am_ju], [], (zl sn sx, xa xm T D r B (xb V L F R sg2 P), M, q)) oo
      obtain ⟨c2, hM⟩ := am_ifn hM
      refine am_ev.kc 7 51 [.ref 100, .int x1, .int x2, .int x3, .int x4, am_ju] [.int ((rw_told L) (x4).toNatClampNeg), .ref 114] (zl sn sx, xa xm T D r B (xb V L F R sg2 P), M, q) c2 (fun _ _ => rfl) ?_
      obtain ⟨rr, hc, hM⟩ := am_bind hM
      obtain ⟨bg3, rfl⟩ : ∃ z, z = rr := ⟨_, rfl⟩
      refine am_ev.call rfl rfl rfl ((s_Board_make_B hc).mono (by decide)) ?_
      show am_ev _ k_Mp_refuted (54, [.ref 100, .int x1, .int x2, .int x3, .int x4, am_ju], [], (zl sn sx, xa xm T D r bg3 (xb V L F R sg2 P), M, q)) oo
      obtain ⟨rr, hc, hM⟩ := am_bind hM
      obtain ⟨r4, bg5, vg6, rg7, sg8⟩ := rr
      refine am_ev.kg 4 (pc' := 60) (lv' := [.ref 100, .int x1, .int x2, .int x3, .int x4, am_ju]) (st' := [.int (1 : Int32), .int x3, .ref 142]) (h' := (zl sn sx, xa xm T D r bg3 (xb V L F R sg2 P), M, q)) (fun _ _ => rfl) ?_
      refine am_ev.call rfl rfl rfl ((s_Solver_refutation_p1 hc).mono (by decide)) ?_
      show am_ev _ k_Mp_refuted (63, [.ref 100, .int x1, .int x2, .int x3, .int x4, am_ju], [.int r4], (zl sn sx, xa xm T D r bg5 (xb vg6 L F rg7 sg8 P), M, q)) oo
      obtain ⟨rr, hc, hM⟩ := am_bind hM
      obtain ⟨bg9, rfl⟩ : ∃ z, z = rr := ⟨_, rfl⟩
      refine am_ev.kg 3 (pc' := 69) (lv' := [.ref 100, .int x1, .int x2, .int x3, .int x4, .int r4]) (st' := [.ref 114]) (h' := (zl sn sx, xa xm T D r bg5 (xb vg6 L F rg7 sg8 P), M, q)) (fun _ _ => rfl) ?_
      refine am_ev.call rfl rfl rfl ((s_Board_unmake_B hc).mono (by decide)) ?_
      show am_ev _ k_Mp_refuted (72, [.ref 100, .int x1, .int x2, .int x3, .int x4, .int r4], [], (zl sn sx, xa xm T D r bg9 (xb vg6 L F rg7 sg8 P), M, q)) oo
      cases hM
      cases hx
      exact am_ev.kf 2 (fun _ _ => rfl)
    · refine am_ev.ke 1 28 18 [.ref 100, .int x1, .int x2, .int x3, .int x4, am_ju] [] (zl sn sx, xa xm T D r B (xb V L F R S P), M, q) c1 (fun _ _ => rfl) ?_
      cases hM
      cases hx
      exact am_ev.kf 1 (fun _ _ => rfl)
  · cases hM
    cases hx
    exact am_ev.thrw rfl rfl rfl rfl rfl ((s_Mp_checkProblem hc).mono (by decide))
theorem s_Mp_refuted {fu : Nat} {sn : Nat} {sx : Nat → Int32} {M : List am_C} {q : Nat × Nat} {T : TxT} {D : BdT} {r : RdT} {B : BdT} {V : MvT} {L : RwT} {F : RwT} {R : Nat → RwT} {S : SoT} {P : HeT} {x1 : Int32} {x2 : Int32} {x3 : Int32} {x4 : Int32} {oe : (Int32 ⊕ Nat)} {oB : BdT} {oV : MvT} {oR : Nat → RwT} {oS : SoT} (hM : f_Mp_refuted fu x1 x2 x3 x4 B V L R S = some (oe, oB, oV, oR, oS)) : am_cv 12 k_Mp_refuted [.ref 100, .int x1, .int x2, .int x3, .int x4] (zl sn sx, xa xm T D r B (xb V L F R S P), M, q) (am_out (oe.map (fun v => some (.int v)) id) (zl sn sx, xa xm T D r oB (xb oV L F oR oS P), M, q)) := am_cv.of rfl (se_Mp_refuted (e := (oe, oB, oV, oR, oS)) (show y_Mp_refuted sn sx M q T D r L F P _ (oe, oB, oV, oR, oS) from rfl) hM)
def y_Mp_checkHelp (sn : Nat) (sx : Nat → Int32) (M : List am_C) (q : Nat × Nat) (c0 : am_C) (tl : List am_C) (T : TxT) (D : BdT) (r : RdT) (B : BdT) (oo : am_O) : (Unit ⊕ Nat) → Prop
  | oe => oo = (am_out (oe.map (fun v => none) id) (zl sn sx, xa c0 T D r B tl, M, q))
theorem se_Mp_checkHelp {sn : Nat} {sx : Nat → Int32} {M : List am_C} {q : Nat × Nat} {c0 : am_C} {tl : List am_C} {T : TxT} {D : BdT} {r : RdT} {B : BdT} {x0 : Int32} {x1 : Int32} {oo : am_O} {e : (Unit ⊕ Nat)} (hx : y_Mp_checkHelp sn sx M q c0 tl T D r B oo e) (hM : f_Mp_checkHelp x0 x1 = some e) : am_ev 2 k_Mp_checkHelp (0, [.int x0, .int x1], [], (zl sn sx, xa c0 T D r B tl, M, q)) oo := by
  unfold f_Mp_checkHelp at hM
  obtain ⟨rr, hc, hM⟩ := am_bind hM
  obtain ⟨a0, rfl⟩ : ∃ z, z = rr := ⟨_, rfl⟩
  refine am_ev.kg 1 (pc' := 1) (lv' := [.int x0, .int x1]) (st' := [.int x0]) (h' := (zl sn sx, xa c0 T D r B tl, M, q)) (fun _ _ => rfl) ?_
  rcases a0 with u0 | e0
  · refine am_ev.call rfl rfl rfl ((s_Mp_checkGoal hc).mono (by decide)) ?_
    show am_ev _ k_Mp_checkHelp (4, [.int x0, .int x1], [], (zl sn sx, xa c0 T D r B tl, M, q)) oo
    rcases am_if hM with ⟨c1, hM⟩ | ⟨c1, hM⟩
    · refine am_ev.kt 3 14 9 [.int x0, .int x1] [] (zl sn sx, xa c0 T D r B tl, M, q) c1 (fun _ _ => rfl) ?_
      cases hM
      cases hx
      exact am_ev.kf 1 (fun _ _ => rfl)
    · refine am_ev.ke 3 14 9 [.int x0, .int x1] [] (zl sn sx, xa c0 T D r B tl, M, q) c1 (fun _ _ => rfl) ?_
      rcases am_if hM with ⟨c2, hM⟩ | ⟨c2, hM⟩
      · refine am_ev.kt 3 24 14 [.int x0, .int x1] [] (zl sn sx, xa c0 T D r B tl, M, q) c2 (fun _ _ => rfl) ?_
        cases hM
        cases hx
        exact am_ev.kf 1 (fun _ _ => rfl)
      · refine am_ev.ke 3 24 14 [.int x0, .int x1] [] (zl sn sx, xa c0 T D r B tl, M, q) c2 (fun _ _ => rfl) ?_
        cases hM
        cases hx
        exact am_ev.kf 1 (fun _ _ => rfl)
  · cases hM
    cases hx
    exact am_ev.thrw rfl rfl rfl rfl rfl ((s_Mp_checkGoal hc).mono (by decide))
theorem s_Mp_checkHelp {sn : Nat} {sx : Nat → Int32} {M : List am_C} {q : Nat × Nat} {c0 : am_C} {tl : List am_C} {T : TxT} {D : BdT} {r : RdT} {B : BdT} {x0 : Int32} {x1 : Int32} {oe : (Unit ⊕ Nat)} (hM : f_Mp_checkHelp x0 x1 = some oe) : am_cv 3 k_Mp_checkHelp [.int x0, .int x1] (zl sn sx, xa c0 T D r B tl, M, q) (am_out (oe.map (fun v => none) id) (zl sn sx, xa c0 T D r B tl, M, q)) := am_cv.of rfl (se_Mp_checkHelp (e := oe) (show y_Mp_checkHelp sn sx M q c0 tl T D r B _ oe from rfl) hM)
def y_HelpLines_knows (sn : Nat) (sx : Nat → Int32) (M : List am_C) (q : Nat × Nat) (T : TxT) (D : BdT) (r : RdT) (B : BdT) (V : MvT) (L : RwT) (F : RwT) (R : Nat → RwT) (S : SoT) (oo : am_O) : Int32 × HeT → Prop
  | (ov, oP) => oo = (.inl (some (.int ov)), (zl sn sx, xa xm T D r B (xb V L F R S oP), M, q))
theorem sj_HelpLines_knows_65 {sn : Nat} {sx : Nat → Int32} {M : List am_C} {q : Nat × Nat} {T : TxT} {D : BdT} {r : RdT} {B : BdT} {V : MvT} {L : RwT} {F : RwT} {R : Nat → RwT} {S : SoT} {P : HeT} {x1 : Int32} {x2 : Int32} {x4 : Int32} {oo : am_O} {e : Int32 × HeT} (hx : y_HelpLines_knows sn sx M q T D r B V L F R S oo e) (hM : j_HelpLines_knows_65 P x1 x2 x4 = some e) : am_ev 1 k_HelpLines_knows (65, [.ref 144, .int x1, .int x2, am_ju, .int x4, am_ju], [], (zl sn sx, xa xm T D r B (xb V L F R S P), M, q)) oo := by
  unfold j_HelpLines_knows_65 at hM
  cases hM
  cases hx
  exact am_ev.kf 19 (fun _ _ => rfl)
theorem sj_HelpLines_knows_39 {sn : Nat} {sx : Nat → Int32} {M : List am_C} {q : Nat × Nat} {T : TxT} {D : BdT} {r : RdT} {B : BdT} {V : MvT} {L : RwT} {F : RwT} {R : Nat → RwT} {S : SoT} {P : HeT} {x1 : Int32} {x2 : Int32} {x3 : Int32} {x4 : Int32} {s0 : Int32} {oo : am_O} {e : Int32 × HeT} (hx : y_HelpLines_knows sn sx M q T D r B V L F R S oo e) (hM : j_HelpLines_knows_39 P x1 x2 x3 x4 s0 = some e) : am_ev 1 k_HelpLines_knows (39, [.ref 144, .int x1, .int x2, .int x3, .int x4, am_ju], [.int s0], (zl sn sx, xa xm T D r B (xb V L F R S P), M, q)) oo := by
  unfold j_HelpLines_knows_39 at hM
  rcases am_if hM with ⟨c1, hM⟩ | ⟨c1, hM⟩
  · refine am_ev.kt 3 65 46 [.ref 144, .int x1, .int x2, .int x3, .int x4, .int s0] [] (zl sn sx, xa xm T D r B (xb V L F R S P), M, q) c1 (fun _ _ => rfl) ?_
    refine am_ev.wk (lv' := [.ref 144, .int x1, .int x2, am_ju, .int x4, am_ju]) (am_lc (Or.inr rfl) (am_lc (Or.inr rfl) (am_lc (Or.inr rfl) (am_lc (Or.inl rfl) (am_lc (Or.inr rfl) (am_lc (Or.inl rfl) am_ln)))))) ?_
    exact sj_HelpLines_knows_65 hx hM
  · refine am_ev.ke 3 65 46 [.ref 144, .int x1, .int x2, .int x3, .int x4, .int s0] [] (zl sn sx, xa xm T D r B (xb V L F R S P), M, q) c1 (fun _ _ => rfl) ?_
    rcases am_if hM with ⟨c2, hM⟩ | ⟨c2, hM⟩
    · refine am_ev.kt 4 63 55 [.ref 144, .int x1, .int x2, .int x3, .int x4, .int s0] [] (zl sn sx, xa xm T D r B (xb V L F R S P), M, q) c2 (fun _ _ => rfl) ?_
      cases hM
      cases hx
      exact am_ev.kf 2 (fun _ _ => rfl)
    · refine am_ev.ke 4 63 55 [.ref 144, .int x1, .int x2, .int x3, .int x4, .int s0] [] (zl sn sx, xa xm T D r B (xb V L F R S P), M, q) c2 (fun _ _ => rfl) ?_
      rcases am_if hM with ⟨c3, hM⟩ | ⟨c3, hM⟩
      · refine am_ev.kt 4 65 63 [.ref 144, .int x1, .int x2, .int x3, .int x4, .int s0] [] (zl sn sx, xa xm T D r B (xb V L F R S P), M, q) c3 (fun _ _ => rfl) ?_
        refine am_ev.wk (lv' := [.ref 144, .int x1, .int x2, am_ju, .int x4, am_ju]) (am_lc (Or.inr rfl) (am_lc (Or.inr rfl) (am_lc (Or.inr rfl) (am_lc (Or.inl rfl) (am_lc (Or.inr rfl) (am_lc (Or.inl rfl) am_ln)))))) ?_
        exact sj_HelpLines_knows_65 hx hM
      · refine am_ev.ke 4 65 63 [.ref 144, .int x1, .int x2, .int x3, .int x4, .int s0] [] (zl sn sx, xa xm T D r B (xb V L F R S P), M, q) c3 (fun _ _ => rfl) ?_
        cases hM
        cases hx
        exact am_ev.kf 2 (fun _ _ => rfl)
theorem sj_HelpLines_knows_38 {sn : Nat} {sx : Nat → Int32} {M : List am_C} {q : Nat × Nat} {T : TxT} {D : BdT} {r : RdT} {B : BdT} {V : MvT} {L : RwT} {F : RwT} {R : Nat → RwT} {S : SoT} {P : HeT} {x1 : Int32} {x2 : Int32} {x3 : Int32} {x4 : Int32} {oo : am_O} {e : Int32 × HeT} (hx : y_HelpLines_knows sn sx M q T D r B V L F R S oo e) (hM : j_HelpLines_knows_38 P x1 x2 x3 x4 = some e) : am_ev 1 k_HelpLines_knows (38, [.ref 144, .int x1, .int x2, .int x3, .int x4, am_ju], [], (zl sn sx, xa xm T D r B (xb V L F R S P), M, q)) oo := by
  unfold j_HelpLines_knows_38 at hM
  refine am_ev.kg 1 (pc' := 39) (lv' := [.ref 144, .int x1, .int x2, .int x3, .int x4, am_ju]) (st' := [.int (0 : Int32)]) (h' := (zl sn sx, xa xm T D r B (xb V L F R S P), M, q)) (fun _ _ => rfl) ?_
  exact sj_HelpLines_knows_39 hx hM
theorem se_HelpLines_knows {sn : Nat} {sx : Nat → Int32} {M : List am_C} {q : Nat × Nat} {T : TxT} {D : BdT} {r : RdT} {B : BdT} {V : MvT} {L : RwT} {F : RwT} {R : Nat → RwT} {S : SoT} {P : HeT} {x1 : Int32} {x2 : Int32} {x3 : Int32} {oo : am_O} {e : Int32 × HeT} (hx : y_HelpLines_knows sn sx M q T D r B V L F R S oo e) (hM : f_HelpLines_knows x1 x2 x3 P = some e) : am_ev 1 k_HelpLines_knows (0, [.ref 144, .int x1, .int x2, .int x3, am_ju, am_ju], [], (zl sn sx, xa xm T D r B (xb V L F R S P), M, q)) oo := by
  unfold f_HelpLines_knows at hM
  rcases am_if hM with ⟨c4, hM⟩ | ⟨c4, hM⟩
  · refine am_ev.kt 9 38 16 [.ref 144, .int x1, .int x2, .int x3, .int (x3 - (x3 - x3 / (1024 : Int32) * (1024 : Int32))), am_ju] [] (zl sn sx, xa xm T D r B (xb V L F R S P), M, q) c4 (fun _ _ => rfl) ?_
    exact sj_HelpLines_knows_38 hx hM
  · refine am_ev.ke 9 38 16 [.ref 144, .int x1, .int x2, .int x3, .int (x3 - (x3 - x3 / (1024 : Int32) * (1024 : Int32))), am_ju] [] (zl sn sx, xa xm T D r B (xb V L F R S P), M, q) c4 (fun _ _ => rfl) ?_
    rcases am_if hM with ⟨c5, hM⟩ | ⟨c5, hM⟩
    · refine am_ev.kt 4 38 24 [.ref 144, .int x1, .int x2, .int x3, .int (x3 - (x3 - x3 / (1024 : Int32) * (1024 : Int32))), am_ju] [] (zl sn sx, xa xm T D r B (xb V L F R S P), M, q) c5 (fun _ _ => rfl) ?_
      exact sj_HelpLines_knows_38 hx hM
    · refine am_ev.ke 4 38 24 [.ref 144, .int x1, .int x2, .int x3, .int (x3 - (x3 - x3 / (1024 : Int32) * (1024 : Int32))), am_ju] [] (zl sn sx, xa xm T D r B (xb V L F R S P), M, q) c5 (fun _ _ => rfl) ?_
      rcases am_if hM with ⟨c6, hM⟩ | ⟨c6, hM⟩
      · refine am_ev.kt 6 38 34 [.ref 144, .int x1, .int x2, .int x3, .int (x3 - (x3 - x3 / (1024 : Int32) * (1024 : Int32))), am_ju] [] (zl sn sx, xa xm T D r B (xb V L F R S P), M, q) c6 (fun _ _ => rfl) ?_
        exact sj_HelpLines_knows_38 hx hM
      · refine am_ev.ke 6 38 34 [.ref 144, .int x1, .int x2, .int x3, .int (x3 - (x3 - x3 / (1024 : Int32) * (1024 : Int32))), am_ju] [] (zl sn sx, xa xm T D r B (xb V L F R S P), M, q) c6 (fun _ _ => rfl) ?_
        refine am_ev.kg 2 (pc' := 39) (lv' := [.ref 144, .int x1, .int x2, .int x3, .int (x3 - (x3 - x3 / (1024 : Int32) * (1024 : Int32))), am_ju]) (st' := [.int (1 : Int32)]) (h' := (zl sn sx, xa xm T D r B (xb V L F R S P), M, q)) (fun _ _ => rfl) ?_
        exact sj_HelpLines_knows_39 hx hM
theorem s_HelpLines_knows {sn : Nat} {sx : Nat → Int32} {M : List am_C} {q : Nat × Nat} {T : TxT} {D : BdT} {r : RdT} {B : BdT} {V : MvT} {L : RwT} {F : RwT} {R : Nat → RwT} {S : SoT} {P : HeT} {x1 : Int32} {x2 : Int32} {x3 : Int32} {ov : Int32} {oP : HeT} (hM : f_HelpLines_knows x1 x2 x3 P = some (ov, oP)) : am_cv 2 k_HelpLines_knows [.ref 144, .int x1, .int x2, .int x3] (zl sn sx, xa xm T D r B (xb V L F R S P), M, q) (.inl (some (.int ov)), (zl sn sx, xa xm T D r B (xb V L F R S oP), M, q)) := am_cv.of rfl (se_HelpLines_knows (e := (ov, oP)) (show y_HelpLines_knows sn sx M q T D r B V L F R S _ (ov, oP) from rfl) hM)
def y_HelpLines_keepPath (sn : Nat) (sx : Nat → Int32) (M : List am_C) (q : Nat × Nat) (T : TxT) (D : BdT) (r : RdT) (B : BdT) (V : MvT) (L : RwT) (F : RwT) (R : Nat → RwT) (S : SoT) (oo : am_O) : HeT → Prop
  | oP => oo = (.inl none, (zl sn sx, xa xm T D r B (xb V L F R S oP), M, q))
def x_HelpLines_keepPath_23 (sn : Nat) (sx : Nat → Int32) (M : List am_C) (q : Nat × Nat) (T : TxT) (D : BdT) (r : RdT) (B : BdT) (V : MvT) (L : RwT) (F : RwT) (R : Nat → RwT) (S : SoT) (x1 : Int32) (oo : am_O) : (HeT) → Prop
  | P => am_ev 1 k_HelpLines_keepPath (50, [.ref 144, am_ju, am_ju], [], (zl sn sx, xa xm T D r B (xb V L F R S P), M, q)) oo
theorem sj_HelpLines_keepPath_50 {fu : Nat} {sn : Nat} {sx : Nat → Int32} {M : List am_C} {q : Nat × Nat} {T : TxT} {D : BdT} {r : RdT} {B : BdT} {V : MvT} {L : RwT} {F : RwT} {R : Nat → RwT} {S : SoT} {P : HeT} {oo : am_O} {e : HeT} (hx : y_HelpLines_keepPath sn sx M q T D r B V L F R S oo e) (hM : j_HelpLines_keepPath_50 fu P = some e) : am_ev 1 k_HelpLines_keepPath (50, [.ref 144, am_ju, am_ju], [], (zl sn sx, xa xm T D r B (xb V L F R S P), M, q)) oo := by
  unfold j_HelpLines_keepPath_50 at hM
  cases hM
  cases hx
  exact am_ev.kf 7 (fun _ _ => rfl)
theorem sb_HelpLines_keepPath_23 {fu : Nat} {sn : Nat} {sx : Nat → Int32} {M : List am_C} {q : Nat × Nat} {T : TxT} {D : BdT} {r : RdT} {B : BdT} {V : MvT} {L : RwT} {F : RwT} {R : Nat → RwT} {S : SoT} {x1 : Int32} {oo : am_O} {e : (HeT)} {gg : Int32 → HeT → Option ((HeT))} (hx : x_HelpLines_keepPath_23 sn sx M q T D r B V L F R S x1 oo e) (hg : ∀ (x2 : Int32) (P : HeT), gg x2 P = some e → am_ev 1 k_HelpLines_keepPath (23, [.ref 144, .int x1, .int x2], [], (zl sn sx, xa xm T D r B (xb V L F R S P), M, q)) oo) {x2 : Int32} {P : HeT} (hM : b_HelpLines_keepPath_23 fu x1 gg x2 P = some e) : am_ev 1 k_HelpLines_keepPath (23, [.ref 144, .int x1, .int x2], [], (zl sn sx, xa xm T D r B (xb V L F R S P), M, q)) oo := by
  unfold b_HelpLines_keepPath_23 at hM
  rcases am_if hM with ⟨c1, hM⟩ | ⟨c1, hM⟩
  · refine am_ev.kt 3 50 28 [.ref 144, .int x1, .int x2] [] (zl sn sx, xa xm T D r B (xb V L F R S P), M, q) c1 (fun _ _ => rfl) ?_
    refine am_ev.wk (lv' := [.ref 144, am_ju, am_ju]) (am_lc (Or.inr rfl) (am_lc (Or.inl rfl) (am_lc (Or.inl rfl) am_ln))) ?_
    cases hM
    exact hx
  · refine am_ev.ke 3 50 28 [.ref 144, .int x1, .int x2] [] (zl sn sx, xa xm T D r B (xb V L F R S P), M, q) c1 (fun _ _ => rfl) ?_
    obtain ⟨c2, hM⟩ := am_ifn hM
    refine am_ev.kc 11 43 [.ref 144, .int x1, .int x2] [.int ((he_path P) (x2).toNatClampNeg), .int (((4 : Int32) * x1) + x2), .ref 146] (zl sn sx, xa xm T D r B (xb V L F R S P), M, q) c2 (fun _ _ => rfl) ?_
    obtain ⟨c3, hM⟩ := am_ifn hM
    refine am_ev.kc 1 44 [.ref 144, .int x1, .int x2] [] (zl sn sx, xa xm T D r B (xb V L F R S ((he_path P), (upd (he_kept P) ((((4 : Int32) * x1) + x2)).toNatClampNeg ((he_path P) (x2).toNatClampNeg)), (he_firstKept P), (he_known P), (he_goal P), (he_plies P), (he_count P))), M, q) c3 (fun _ _ => rfl) ?_
    refine am_ev.kg 2 (pc' := 23) (lv' := [.ref 144, .int x1, .int (x2 + (1 : Int32))]) (st' := []) (h' := (zl sn sx, xa xm T D r B (xb V L F R S ((he_path P), (upd (he_kept P) ((((4 : Int32) * x1) + x2)).toNatClampNeg ((he_path P) (x2).toNatClampNeg)), (he_firstKept P), (he_known P), (he_goal P), (he_plies P), (he_count P))), M, q)) (fun _ _ => rfl) ?_
    exact hg _ _ hM
theorem sl_HelpLines_keepPath_23 {fu : Nat} {sn : Nat} {sx : Nat → Int32} {M : List am_C} {q : Nat × Nat} {T : TxT} {D : BdT} {r : RdT} {B : BdT} {V : MvT} {L : RwT} {F : RwT} {R : Nat → RwT} {S : SoT} {x1 : Int32} {oo : am_O} {e : (HeT)} (hx : x_HelpLines_keepPath_23 sn sx M q T D r B V L F R S x1 oo e) : ∀ (n : Nat) (x2 : Int32) (P : HeT), l_HelpLines_keepPath_23 fu x1 n x2 P = some e → am_ev 1 k_HelpLines_keepPath (23, [.ref 144, .int x1, .int x2], [], (zl sn sx, xa xm T D r B (xb V L F R S P), M, q)) oo
  | 0, _, _, hM => by have h : (none : Option ((HeT))) = some e := hM; cases h
  | n + 1, _, _, hM => sb_HelpLines_keepPath_23 hx (fun _ _ hM => sl_HelpLines_keepPath_23 hx n _ _ hM) hM
theorem se_HelpLines_keepPath {fu : Nat} {sn : Nat} {sx : Nat → Int32} {M : List am_C} {q : Nat × Nat} {T : TxT} {D : BdT} {r : RdT} {B : BdT} {V : MvT} {L : RwT} {F : RwT} {R : Nat → RwT} {S : SoT} {P : HeT} {oo : am_O} {e : HeT} (hx : y_HelpLines_keepPath sn sx M q T D r B V L F R S oo e) (hM : f_HelpLines_keepPath fu P = some e) : am_ev 1 k_HelpLines_keepPath (0, [.ref 144, am_ju, am_ju], [], (zl sn sx, xa xm T D r B (xb V L F R S P), M, q)) oo := by
  unfold f_HelpLines_keepPath at hM
  rcases am_if hM with ⟨c4, hM⟩ | ⟨c4, hM⟩
  · refine am_ev.kt 8 50 14 [.ref 144, .int ((he_count P) - (he_firstKept P)), am_ju] [] (zl sn sx, xa xm T D r B (xb V L F R S P), M, q) c4 (fun _ _ => rfl) ?_
    refine am_ev.wk (lv' := [.ref 144, am_ju, am_ju]) (am_lc (Or.inr rfl) (am_lc (Or.inl rfl) (am_lc (Or.inr rfl) am_ln))) ?_
    exact sj_HelpLines_keepPath_50 hx hM
  · refine am_ev.ke 8 50 14 [.ref 144, .int ((he_count P) - (he_firstKept P)), am_ju] [] (zl sn sx, xa xm T D r B (xb V L F R S P), M, q) c4 (fun _ _ => rfl) ?_
    rcases am_if hM with ⟨c5, hM⟩ | ⟨c5, hM⟩
    · refine am_ev.kt 3 50 21 [.ref 144, .int ((he_count P) - (he_firstKept P)), am_ju] [] (zl sn sx, xa xm T D r B (xb V L F R S P), M, q) c5 (fun _ _ => rfl) ?_
      refine am_ev.wk (lv' := [.ref 144, am_ju, am_ju]) (am_lc (Or.inr rfl) (am_lc (Or.inl rfl) (am_lc (Or.inr rfl) am_ln))) ?_
      exact sj_HelpLines_keepPath_50 hx hM
    · refine am_ev.ke 3 50 21 [.ref 144, .int ((he_count P) - (he_firstKept P)), am_ju] [] (zl sn sx, xa xm T D r B (xb V L F R S P), M, q) c5 (fun _ _ => rfl) ?_
      refine am_ev.kg 2 (pc' := 23) (lv' := [.ref 144, .int ((he_count P) - (he_firstKept P)), .int (0 : Int32)]) (st' := []) (h' := (zl sn sx, xa xm T D r B (xb V L F R S P), M, q)) (fun _ _ => rfl) ?_
      obtain ⟨z, hz, hM⟩ := am_bind hM
      obtain ⟨pz_1, rfl⟩ : ∃ y, y = z := ⟨_, rfl⟩
      refine sl_HelpLines_keepPath_23 ?_ _ _ _ hz
      show am_ev 1 k_HelpLines_keepPath (50, [.ref 144, am_ju, am_ju], [], (zl sn sx, xa xm T D r B (xb V L F R S pz_1), M, q)) oo
      exact sj_HelpLines_keepPath_50 hx hM
theorem s_HelpLines_keepPath {fu : Nat} {sn : Nat} {sx : Nat → Int32} {M : List am_C} {q : Nat × Nat} {T : TxT} {D : BdT} {r : RdT} {B : BdT} {V : MvT} {L : RwT} {F : RwT} {R : Nat → RwT} {S : SoT} {P : HeT} {oP : HeT} (hM : f_HelpLines_keepPath fu P = some oP) : am_cv 2 k_HelpLines_keepPath [.ref 144] (zl sn sx, xa xm T D r B (xb V L F R S P), M, q) (.inl none, (zl sn sx, xa xm T D r B (xb V L F R S oP), M, q)) := am_cv.of rfl (se_HelpLines_keepPath (e := oP) (show y_HelpLines_keepPath sn sx M q T D r B V L F R S _ oP from rfl) hM)
def y_HelpLines_walk_p4 (sn : Nat) (sx : Nat → Int32) (M : List am_C) (q : Nat × Nat) (T : TxT) (D : BdT) (r : RdT) (L : RwT) (F : RwT) (S : SoT) (oo : am_O) : BdT × MvT × (Nat → RwT) × HeT → Prop
  | (oB, oV, oR, oP) => oo = (.inl none, (zl sn sx, xa xm T D r oB (xb oV L F oR S oP), M, q))
theorem se_HelpLines_walk_p4 {fu : Nat} {dd : Nat} {sn : Nat} {sx : Nat → Int32} {M : List am_C} {q : Nat × Nat} {T : TxT} {D : BdT} {r : RdT} {B : BdT} {V : MvT} {L : RwT} {F : RwT} {R : Nat → RwT} {S : SoT} {P : HeT} {oo : am_O} {e : BdT × MvT × (Nat → RwT) × HeT} (hx : y_HelpLines_walk_p4 sn sx M q T D r L F S oo e) (hM : e_HelpLines_walk fu (g_HelpLines fu dd) (4 : Int32) B V R P = some e) : am_ev 1 k_HelpLines_walk (0, [.ref 144, .int (4 : Int32), am_ju, am_ju, am_ju], [], (zl sn sx, xa xm T D r B (xb V L F R S P), M, q)) oo := by
  unfold e_HelpLines_walk at hM
  rcases am_if hM with ⟨c1, hM⟩ | ⟨c1, hM⟩
  · refine am_ev.kt 4 13 8 [.ref 144, .int (4 : Int32), am_ju, am_ju, am_ju] [] (zl sn sx, xa xm T D r B (xb V L F R S P), M, q) c1 (fun _ _ => rfl) ?_
    cases hM
    cases hx
    exact am_ev.kf 1 (fun _ _ => rfl)
  · refine am_ev.ke 4 13 8 [.ref 144, .int (4 : Int32), am_ju, am_ju, am_ju] [] (zl sn sx, xa xm T D r B (xb V L F R S P), M, q) c1 (fun _ _ => rfl) ?_
    rcases am_if hM with ⟨c2, hM⟩ | ⟨c2, hM⟩
    · exact absurd c2 (by decide)
    · refine am_ev.ke 3 14 13 [.ref 144, .int (4 : Int32), am_ju, am_ju, am_ju] [] (zl sn sx, xa xm T D r B (xb V L F R S P), M, q) c2 (fun _ _ => rfl) ?_
      cases hM
      cases hx
      exact am_ev.kf 1 (fun _ _ => rfl)
theorem s_HelpLines_walk_p4 {fu : Nat} {dd : Nat} {sn : Nat} {sx : Nat → Int32} {M : List am_C} {q : Nat × Nat} {T : TxT} {D : BdT} {r : RdT} {B : BdT} {V : MvT} {L : RwT} {F : RwT} {R : Nat → RwT} {S : SoT} {P : HeT} {oB : BdT} {oV : MvT} {oR : Nat → RwT} {oP : HeT} (hM : (g_HelpLines fu dd) (4 : Int32) B V R P = some (oB, oV, oR, oP)) : am_cv 2 k_HelpLines_walk [.ref 144, .int (4 : Int32)] (zl sn sx, xa xm T D r B (xb V L F R S P), M, q) (.inl none, (zl sn sx, xa xm T D r oB (xb oV L F oR S oP), M, q)) := by
  cases dd with
  | zero => have h : (none : Option (BdT × MvT × (Nat → RwT) × HeT)) = some (oB, oV, oR, oP) := hM; cases h
  | succ dd => exact am_cv.of rfl (se_HelpLines_walk_p4 (e := (oB, oV, oR, oP)) (show y_HelpLines_walk_p4 sn sx M q T D r L F S _ (oB, oV, oR, oP) from rfl) (show e_HelpLines_walk fu (g_HelpLines fu dd) (4 : Int32) B V R P = some (oB, oV, oR, oP) from hM))
def y_Mover_fill_R3 (sn : Nat) (sx : Nat → Int32) (M : List am_C) (q : Nat × Nat) (T : TxT) (D : BdT) (r : RdT) (B : BdT) (V : MvT) (L : RwT) (F : RwT) (R : Nat → RwT) (S : SoT) (P : HeT) (oo : am_O) : RwT → Prop
  | ow => oo = (.inl none, (zl sn sx, xa xm T D r B (xb V L F (va_up R ((3 : Int32)).toNatClampNeg ow) S P), M, q))
def x_Mover_fill_R3_24 (sn : Nat) (sx : Nat → Int32) (M : List am_C) (q : Nat × Nat) (T : TxT) (D : BdT) (r : RdT) (B : BdT) (V : MvT) (L : RwT) (F : RwT) (R : Nat → RwT) (S : SoT) (P : HeT) (oo : am_O) : RwT → Prop
  | ow => oo = (.inl none, (zl sn sx, xa xm T D r B (xb V L F (va_up R ((3 : Int32)).toNatClampNeg ow) S P), M, q))
theorem sj_Mover_fill_R3_77 {fu : Nat} {sn : Nat} {sx : Nat → Int32} {M : List am_C} {q : Nat × Nat} {T : TxT} {D : BdT} {r : RdT} {B : BdT} {V : MvT} {L : RwT} {F : RwT} {R : Nat → RwT} {S : SoT} {P : HeT} {w : RwT} {l2 : Int64} {x4 : Int32} {s1 : Int32} {t2 : Int64} {s3 : Int32} {oo : am_O} {e : RwT} {gg : Int64 → Int32 → RwT → Option (RwT)} (hx : x_Mover_fill_R3_24 sn sx M q T D r B V L F R S P oo e) (hg : ∀ (l2 : Int64) (x4 : Int32) (w : RwT), gg l2 x4 w = some e → am_ev 4 k_Mover_fill (24, [.ref 123, .ref 136, .long l2, am_ju, .int x4, am_ju], [], (zl sn sx, xa xm T D r B (xb V L F (va_up R ((3 : Int32)).toNatClampNeg w) S P), M, q)) oo) (hM : j_Mover_fill_77 fu gg w B l2 x4 s1 t2 s3 = some e) : am_ev 4 k_Mover_fill (77, [.ref 123, .ref 136, .long l2, am_ju, .int x4, am_ju], [.int s3, .long t2, .int s1, .ref 136], (zl sn sx, xa xm T D r B (xb V L F (va_up R ((3 : Int32)).toNatClampNeg w) S P), M, q)) oo := by
  unfold j_Mover_fill_77 at hM
  obtain ⟨rr, hc, hM⟩ := am_bind hM
  obtain ⟨wg3, rfl⟩ : ∃ z, z = rr := ⟨_, rfl⟩
  refine am_ev.call rfl rfl rfl ((s_MoveRow_addAll_R3 hc).mono (by decide)) ?_
  show am_ev _ k_Mover_fill (80, [.ref 123, .ref 136, .long l2, am_ju, .int x4, am_ju], [], (zl sn sx, xa xm T D r B (xb V L F (va_up R ((3 : Int32)).toNatClampNeg wg3) S P), M, q)) oo
  refine am_ev.kg 2 (pc' := 24) (lv' := [.ref 123, .ref 136, .long l2, am_ju, .int (x4 + (1 : Int32)), am_ju]) (st' := []) (h' := (zl sn sx, xa xm T D r B (xb V L F (va_up R ((3 : Int32)).toNatClampNeg wg3) S P), M, q)) (fun _ _ => rfl) ?_
  exact hg _ _ _ hM
theorem sb_Mover_fill_R3_24 {fu : Nat} {sn : Nat} {sx : Nat → Int32} {M : List am_C} {q : Nat × Nat} {T : TxT} {D : BdT} {r : RdT} {B : BdT} {V : MvT} {L : RwT} {F : RwT} {R : Nat → RwT} {S : SoT} {P : HeT} {oo : am_O} {e : RwT} {gg : Int64 → Int32 → RwT → Option (RwT)} (hx : x_Mover_fill_R3_24 sn sx M q T D r B V L F R S P oo e) (hg : ∀ (l2 : Int64) (x4 : Int32) (w : RwT), gg l2 x4 w = some e → am_ev 4 k_Mover_fill (24, [.ref 123, .ref 136, .long l2, am_ju, .int x4, am_ju], [], (zl sn sx, xa xm T D r B (xb V L F (va_up R ((3 : Int32)).toNatClampNeg w) S P), M, q)) oo) {l2 : Int64} {x4 : Int32} {w : RwT} (hM : b_Mover_fill_24 fu B gg l2 x4 w = some e) : am_ev 4 k_Mover_fill (24, [.ref 123, .ref 136, .long l2, am_ju, .int x4, am_ju], [], (zl sn sx, xa xm T D r B (xb V L F (va_up R ((3 : Int32)).toNatClampNeg w) S P), M, q)) oo := by
  unfold b_Mover_fill_24 at hM
  rcases am_if hM with ⟨c1, hM⟩ | ⟨c1, hM⟩
  · refine am_ev.kt 3 86 31 [.ref 123, .ref 136, .long l2, am_ju, .int x4, am_ju] [] (zl sn sx, xa xm T D r B (xb V L F (va_up R ((3 : Int32)).toNatClampNeg w) S P), M, q) c1 (fun _ _ => rfl) ?_
    cases hM
    cases hx
    exact am_ev.kf 1 (fun _ _ => rfl)
  · refine am_ev.ke 3 86 31 [.ref 123, .ref 136, .long l2, am_ju, .int x4, am_ju] [] (zl sn sx, xa xm T D r B (xb V L F (va_up R ((3 : Int32)).toNatClampNeg w) S P), M, q) c1 (fun _ _ => rfl) ?_
    rcases am_if hM with ⟨c2, hM⟩ | ⟨c2, hM⟩
    · refine am_ev.kt 4 86 37 [.ref 123, .ref 136, .long l2, am_ju, .int x4, am_ju] [] (zl sn sx, xa xm T D r B (xb V L F (va_up R ((3 : Int32)).toNatClampNeg w) S P), M, q) c2 (fun _ _ => rfl) ?_
      cases hM
      cases hx
      exact am_ev.kf 1 (fun _ _ => rfl)
    · refine am_ev.ke 4 86 37 [.ref 123, .ref 136, .long l2, am_ju, .int x4, am_ju] [] (zl sn sx, xa xm T D r B (xb V L F (va_up R ((3 : Int32)).toNatClampNeg w) S P), M, q) c2 (fun _ _ => rfl) ?_
      obtain ⟨rr, hc, hM⟩ := am_bind hM
      obtain ⟨r1, rfl⟩ : ∃ z, z = rr := ⟨_, rfl⟩
      refine am_ev.kg 1 (pc' := 38) (lv' := [.ref 123, .ref 136, .long l2, am_ju, .int x4, am_ju]) (st' := [.long l2]) (h' := (zl sn sx, xa xm T D r B (xb V L F (va_up R ((3 : Int32)).toNatClampNeg w) S P), M, q)) (fun _ _ => rfl) ?_
      refine am_ev.call rfl rfl rfl ((s_Mover_lowest hc).mono (by decide)) ?_
      show am_ev _ k_Mover_fill (41, [.ref 123, .ref 136, .long l2, am_ju, .int x4, am_ju], [.int r1], (zl sn sx, xa xm T D r B (xb V L F (va_up R ((3 : Int32)).toNatClampNeg w) S P), M, q)) oo
      obtain ⟨rr, hc, hM⟩ := am_bind hM
      obtain ⟨r2, rfl⟩ : ∃ z, z = rr := ⟨_, rfl⟩
      refine am_ev.kg 11 (pc' := 55) (lv' := [.ref 123, .ref 136, .long (l2 &&& (l2 - (1 : Int64))), am_ju, .int x4, .int r1]) (st' := [.int r1, .ref 123, .int r1, .ref 136]) (h' := (zl sn sx, xa xm T D r B (xb V L F (va_up R ((3 : Int32)).toNatClampNeg w) S P), M, q)) (fun _ _ => rfl) ?_
      refine am_ev.call rfl rfl rfl ((s_Mover_targets hc).mono (by decide)) ?_
      show am_ev _ k_Mover_fill (58, [.ref 123, .ref 136, .long (l2 &&& (l2 - (1 : Int64))), am_ju, .int x4, .int r1], [.long r2, .int r1, .ref 136], (zl sn sx, xa xm T D r B (xb V L F (va_up R ((3 : Int32)).toNatClampNeg w) S P), M, q)) oo
      obtain ⟨c3, hM⟩ := am_ifn hM
      refine am_ev.kc 4 65 [.ref 123, .ref 136, .long (l2 &&& (l2 - (1 : Int64))), am_ju, .int x4, .int r1] [.int ((bd_men B) (r1).toNatClampNeg), .long r2, .int r1, .ref 136] (zl sn sx, xa xm T D r B (xb V L F (va_up R ((3 : Int32)).toNatClampNeg w) S P), M, q) c3 (fun _ _ => rfl) ?_
      rcases am_if hM with ⟨c4, hM⟩ | ⟨c4, hM⟩
      · refine am_ev.kt 4 76 72 [.ref 123, .ref 136, .long (l2 &&& (l2 - (1 : Int64))), am_ju, .int x4, .int r1] [.long r2, .int r1, .ref 136] (zl sn sx, xa xm T D r B (xb V L F (va_up R ((3 : Int32)).toNatClampNeg w) S P), M, q) c4 (fun _ _ => rfl) ?_
        refine am_ev.kg 1 (pc' := 77) (lv' := [.ref 123, .ref 136, .long (l2 &&& (l2 - (1 : Int64))), am_ju, .int x4, .int r1]) (st' := [.int (0 : Int32), .long r2, .int r1, .ref 136]) (h' := (zl sn sx, xa xm T D r B (xb V L F (va_up R ((3 : Int32)).toNatClampNeg w) S P), M, q)) (fun _ _ => rfl) ?_
        refine am_ev.wk (lv' := [.ref 123, .ref 136, .long (l2 &&& (l2 - (1 : Int64))), am_ju, .int x4, am_ju]) (am_lc (Or.inr rfl) (am_lc (Or.inr rfl) (am_lc (Or.inr rfl) (am_lc (Or.inr rfl) (am_lc (Or.inr rfl) (am_lc (Or.inl rfl) am_ln)))))) ?_
        exact sj_Mover_fill_R3_77 hx hg hM
      · refine am_ev.ke 4 76 72 [.ref 123, .ref 136, .long (l2 &&& (l2 - (1 : Int64))), am_ju, .int x4, .int r1] [.long r2, .int r1, .ref 136] (zl sn sx, xa xm T D r B (xb V L F (va_up R ((3 : Int32)).toNatClampNeg w) S P), M, q) c4 (fun _ _ => rfl) ?_
        refine am_ev.kg 2 (pc' := 77) (lv' := [.ref 123, .ref 136, .long (l2 &&& (l2 - (1 : Int64))), am_ju, .int x4, .int r1]) (st' := [.int (1 : Int32), .long r2, .int r1, .ref 136]) (h' := (zl sn sx, xa xm T D r B (xb V L F (va_up R ((3 : Int32)).toNatClampNeg w) S P), M, q)) (fun _ _ => rfl) ?_
        refine am_ev.wk (lv' := [.ref 123, .ref 136, .long (l2 &&& (l2 - (1 : Int64))), am_ju, .int x4, am_ju]) (am_lc (Or.inr rfl) (am_lc (Or.inr rfl) (am_lc (Or.inr rfl) (am_lc (Or.inr rfl) (am_lc (Or.inr rfl) (am_lc (Or.inl rfl) am_ln)))))) ?_
        exact sj_Mover_fill_R3_77 hx hg hM
theorem sl_Mover_fill_R3_24 {fu : Nat} {sn : Nat} {sx : Nat → Int32} {M : List am_C} {q : Nat × Nat} {T : TxT} {D : BdT} {r : RdT} {B : BdT} {V : MvT} {L : RwT} {F : RwT} {R : Nat → RwT} {S : SoT} {P : HeT} {oo : am_O} {e : RwT} (hx : x_Mover_fill_R3_24 sn sx M q T D r B V L F R S P oo e) : ∀ (n : Nat) (l2 : Int64) (x4 : Int32) (w : RwT), l_Mover_fill_24 fu B n l2 x4 w = some e → am_ev 4 k_Mover_fill (24, [.ref 123, .ref 136, .long l2, am_ju, .int x4, am_ju], [], (zl sn sx, xa xm T D r B (xb V L F (va_up R ((3 : Int32)).toNatClampNeg w) S P), M, q)) oo
  | 0, _, _, _, hM => by have h : (none : Option (RwT)) = some e := hM; cases h
  | n + 1, _, _, _, hM => sb_Mover_fill_R3_24 hx (fun _ _ _ hM => sl_Mover_fill_R3_24 hx n _ _ _ hM) hM
theorem se_Mover_fill_R3 {fu : Nat} {sn : Nat} {sx : Nat → Int32} {M : List am_C} {q : Nat × Nat} {T : TxT} {D : BdT} {r : RdT} {B : BdT} {V : MvT} {L : RwT} {F : RwT} {R : Nat → RwT} {S : SoT} {P : HeT} {w : RwT} {oo : am_O} {e : RwT} (hx : y_Mover_fill_R3 sn sx M q T D r B V L F R S P oo e) (hM : f_Mover_fill fu w B = some e) : am_ev 4 k_Mover_fill (0, [.ref 123, .ref 136, am_ju, am_ju, am_ju, am_ju], [], (zl sn sx, xa xm T D r B (xb V L F (va_up R ((3 : Int32)).toNatClampNeg w) S P), M, q)) oo := by
  unfold f_Mover_fill at hM
  obtain ⟨c5, hM⟩ := am_ifn hM
  refine am_ev.kc 10 20 [.ref 123, .ref 136, am_ju, am_ju, am_ju, am_ju] [.long ((bd_held B) ((bd_side B)).toNatClampNeg)] (zl sn sx, xa xm T D r B (xb V L F (va_up R ((3 : Int32)).toNatClampNeg ((rw_told w), (0 : Int32))) S P), M, q) c5 (fun _ _ => rfl) ?_
  refine am_ev.kg 3 (pc' := 24) (lv' := [.ref 123, .ref 136, .long ((bd_held B) ((bd_side B)).toNatClampNeg), am_ju, .int (0 : Int32), am_ju]) (st' := []) (h' := (zl sn sx, xa xm T D r B (xb V L F (va_up R ((3 : Int32)).toNatClampNeg ((rw_told w), (0 : Int32))) S P), M, q)) (fun _ _ => rfl) ?_
  refine sl_Mover_fill_R3_24 ?_ _ _ _ _ hM
  exact hx
theorem s_Mover_fill_R3 {fu : Nat} {sn : Nat} {sx : Nat → Int32} {M : List am_C} {q : Nat × Nat} {T : TxT} {D : BdT} {r : RdT} {B : BdT} {V : MvT} {L : RwT} {F : RwT} {R : Nat → RwT} {S : SoT} {P : HeT} {w : RwT} {ow : RwT} (hM : f_Mover_fill fu w B = some ow) : am_cv 5 k_Mover_fill [.ref 123, .ref 136] (zl sn sx, xa xm T D r B (xb V L F (va_up R ((3 : Int32)).toNatClampNeg w) S P), M, q) (.inl none, (zl sn sx, xa xm T D r B (xb V L F (va_up R ((3 : Int32)).toNatClampNeg ow) S P), M, q)) := am_cv.of rfl (se_Mover_fill_R3 (e := ow) (show y_Mover_fill_R3 sn sx M q T D r B V L F R S P _ ow from rfl) hM)
theorem s_Mover_fill_R3x {fu : Nat} {sn : Nat} {sx : Nat → Int32} {M : List am_C} {q : Nat × Nat} {T : TxT} {D : BdT} {r : RdT} {B : BdT} {V : MvT} {L : RwT} {F : RwT} {R : Nat → RwT} {S : SoT} {P : HeT} {ow : RwT} (hM : f_Mover_fill fu (R ((3 : Int32)).toNatClampNeg) B = some ow) : am_cv 5 k_Mover_fill [.ref 123, .ref 136] (zl sn sx, xa xm T D r B (xb V L F R S P), M, q) (.inl none, (zl sn sx, xa xm T D r B (xb V L F (va_up R ((3 : Int32)).toNatClampNeg ow) S P), M, q)) := by
  have h := s_Mover_fill_R3 (sn := sn) (sx := sx) (M := M) (q := q) (R := R) (w := R ((3 : Int32)).toNatClampNeg) (T := T) (D := D) (r := r) (B := B) (V := V) (L := L) (F := F) (S := S) (P := P) hM
  rw [am_ups] at h
  exact h
def y_Mover_fillChecks_R3 (sn : Nat) (sx : Nat → Int32) (M : List am_C) (q : Nat × Nat) (T : TxT) (D : BdT) (r : RdT) (B : BdT) (L : RwT) (F : RwT) (R : Nat → RwT) (S : SoT) (P : HeT) (oo : am_O) : RwT × MvT → Prop
  | (ow, oV) => oo = (.inl none, (zl sn sx, xa xm T D r B (xb oV L F (va_up R ((3 : Int32)).toNatClampNeg ow) S P), M, q))
def x_Mover_fillChecks_R3_28 (sn : Nat) (sx : Nat → Int32) (M : List am_C) (q : Nat × Nat) (T : TxT) (D : BdT) (r : RdT) (B : BdT) (V : MvT) (L : RwT) (F : RwT) (R : Nat → RwT) (S : SoT) (P : HeT) (oo : am_O) : RwT × MvT → Prop
  | (ow, oV) => oo = (.inl none, (zl sn sx, xa xm T D r B (xb oV L F (va_up R ((3 : Int32)).toNatClampNeg ow) S P), M, q))
theorem sj_Mover_fillChecks_R3_117 {fu : Nat} {sn : Nat} {sx : Nat → Int32} {M : List am_C} {q : Nat × Nat} {T : TxT} {D : BdT} {r : RdT} {B : BdT} {V : MvT} {L : RwT} {F : RwT} {R : Nat → RwT} {S : SoT} {P : HeT} {w : RwT} {l2 : Int64} {x4 : Int32} {s1 : Int32} {t2 : Int64} {s3 : Int32} {oo : am_O} {e : RwT × MvT} {gg : Int64 → Int32 → RwT → Option (RwT × MvT)} (hx : x_Mover_fillChecks_R3_28 sn sx M q T D r B V L F R S P oo e) (hg : ∀ (l2 : Int64) (x4 : Int32) (w : RwT), gg l2 x4 w = some e → am_ev 4 k_Mover_fillChecks (28, [.ref 123, .ref 136, .long l2, am_ju, .int x4, am_ju, am_ju, am_ju, am_ju], [], (zl sn sx, xa xm T D r B (xb V L F (va_up R ((3 : Int32)).toNatClampNeg w) S P), M, q)) oo) (hM : j_Mover_fillChecks_117 fu gg w B V l2 x4 s1 t2 s3 = some e) : am_ev 4 k_Mover_fillChecks (117, [.ref 123, .ref 136, .long l2, am_ju, .int x4, am_ju, am_ju, am_ju, am_ju], [.int s3, .long t2, .int s1, .ref 136], (zl sn sx, xa xm T D r B (xb V L F (va_up R ((3 : Int32)).toNatClampNeg w) S P), M, q)) oo := by
  unfold j_Mover_fillChecks_117 at hM
  obtain ⟨rr, hc, hM⟩ := am_bind hM
  obtain ⟨wg4, rfl⟩ : ∃ z, z = rr := ⟨_, rfl⟩
  refine am_ev.call rfl rfl rfl ((s_MoveRow_addAll_R3 hc).mono (by decide)) ?_
  show am_ev _ k_Mover_fillChecks (120, [.ref 123, .ref 136, .long l2, am_ju, .int x4, am_ju, am_ju, am_ju, am_ju], [], (zl sn sx, xa xm T D r B (xb V L F (va_up R ((3 : Int32)).toNatClampNeg wg4) S P), M, q)) oo
  refine am_ev.kg 2 (pc' := 28) (lv' := [.ref 123, .ref 136, .long l2, am_ju, .int (x4 + (1 : Int32)), am_ju, am_ju, am_ju, am_ju]) (st' := []) (h' := (zl sn sx, xa xm T D r B (xb V L F (va_up R ((3 : Int32)).toNatClampNeg wg4) S P), M, q)) (fun _ _ => rfl) ?_
  exact hg _ _ _ hM
theorem sj_Mover_fillChecks_R3_92 {fu : Nat} {sn : Nat} {sx : Nat → Int32} {M : List am_C} {q : Nat × Nat} {T : TxT} {D : BdT} {r : RdT} {B : BdT} {V : MvT} {L : RwT} {F : RwT} {R : Nat → RwT} {S : SoT} {P : HeT} {w : RwT} {l2 : Int64} {x4 : Int32} {x5 : Int32} {x6 : Int32} {t0 : Int64} {oo : am_O} {e : RwT × MvT} {gg : Int64 → Int32 → RwT → Option (RwT × MvT)} (hx : x_Mover_fillChecks_R3_28 sn sx M q T D r B V L F R S P oo e) (hg : ∀ (l2 : Int64) (x4 : Int32) (w : RwT), gg l2 x4 w = some e → am_ev 4 k_Mover_fillChecks (28, [.ref 123, .ref 136, .long l2, am_ju, .int x4, am_ju, am_ju, am_ju, am_ju], [], (zl sn sx, xa xm T D r B (xb V L F (va_up R ((3 : Int32)).toNatClampNeg w) S P), M, q)) oo) (hM : j_Mover_fillChecks_92 fu gg w B V l2 x4 x5 x6 t0 = some e) : am_ev 4 k_Mover_fillChecks (92, [.ref 123, .ref 136, .long l2, am_ju, .int x4, .int x5, .int x6, am_ju, am_ju], [.long t0], (zl sn sx, xa xm T D r B (xb V L F (va_up R ((3 : Int32)).toNatClampNeg w) S P), M, q)) oo := by
  unfold j_Mover_fillChecks_92 at hM
  obtain ⟨rr, hc, hM⟩ := am_bind hM
  obtain ⟨r3, rfl⟩ : ∃ z, z = rr := ⟨_, rfl⟩
  refine am_ev.kg 5 (pc' := 100) (lv' := [.ref 123, .ref 136, .long l2, am_ju, .int x4, .int x5, .int x6, .long t0, am_ju]) (st' := [.int x5, .ref 123, .int x5, .ref 136]) (h' := (zl sn sx, xa xm T D r B (xb V L F (va_up R ((3 : Int32)).toNatClampNeg w) S P), M, q)) (fun _ _ => rfl) ?_
  refine am_ev.call rfl rfl rfl ((s_Mover_targets hc).mono (by decide)) ?_
  show am_ev _ k_Mover_fillChecks (103, [.ref 123, .ref 136, .long l2, am_ju, .int x4, .int x5, .int x6, .long t0, am_ju], [.long r3, .int x5, .ref 136], (zl sn sx, xa xm T D r B (xb V L F (va_up R ((3 : Int32)).toNatClampNeg w) S P), M, q)) oo
  rcases am_if hM with ⟨c1, hM⟩ | ⟨c1, hM⟩
  · refine am_ev.kt 5 116 112 [.ref 123, .ref 136, .long l2, am_ju, .int x4, .int x5, .int x6, .long t0, am_ju] [.long (r3 &&& t0), .int x5, .ref 136] (zl sn sx, xa xm T D r B (xb V L F (va_up R ((3 : Int32)).toNatClampNeg w) S P), M, q) c1 (fun _ _ => rfl) ?_
    refine am_ev.kg 1 (pc' := 117) (lv' := [.ref 123, .ref 136, .long l2, am_ju, .int x4, .int x5, .int x6, .long t0, am_ju]) (st' := [.int (0 : Int32), .long (r3 &&& t0), .int x5, .ref 136]) (h' := (zl sn sx, xa xm T D r B (xb V L F (va_up R ((3 : Int32)).toNatClampNeg w) S P), M, q)) (fun _ _ => rfl) ?_
    refine am_ev.wk (lv' := [.ref 123, .ref 136, .long l2, am_ju, .int x4, am_ju, am_ju, am_ju, am_ju]) (am_lc (Or.inr rfl) (am_lc (Or.inr rfl) (am_lc (Or.inr rfl) (am_lc (Or.inr rfl) (am_lc (Or.inr rfl) (am_lc (Or.inl rfl) (am_lc (Or.inl rfl) (am_lc (Or.inl rfl) (am_lc (Or.inr rfl) am_ln))))))))) ?_
    exact sj_Mover_fillChecks_R3_117 hx hg hM
  · refine am_ev.ke 5 116 112 [.ref 123, .ref 136, .long l2, am_ju, .int x4, .int x5, .int x6, .long t0, am_ju] [.long (r3 &&& t0), .int x5, .ref 136] (zl sn sx, xa xm T D r B (xb V L F (va_up R ((3 : Int32)).toNatClampNeg w) S P), M, q) c1 (fun _ _ => rfl) ?_
    refine am_ev.kg 2 (pc' := 117) (lv' := [.ref 123, .ref 136, .long l2, am_ju, .int x4, .int x5, .int x6, .long t0, am_ju]) (st' := [.int (1 : Int32), .long (r3 &&& t0), .int x5, .ref 136]) (h' := (zl sn sx, xa xm T D r B (xb V L F (va_up R ((3 : Int32)).toNatClampNeg w) S P), M, q)) (fun _ _ => rfl) ?_
    refine am_ev.wk (lv' := [.ref 123, .ref 136, .long l2, am_ju, .int x4, am_ju, am_ju, am_ju, am_ju]) (am_lc (Or.inr rfl) (am_lc (Or.inr rfl) (am_lc (Or.inr rfl) (am_lc (Or.inr rfl) (am_lc (Or.inr rfl) (am_lc (Or.inl rfl) (am_lc (Or.inl rfl) (am_lc (Or.inl rfl) (am_lc (Or.inr rfl) am_ln))))))))) ?_
    exact sj_Mover_fillChecks_R3_117 hx hg hM
theorem sb_Mover_fillChecks_R3_28 {fu : Nat} {sn : Nat} {sx : Nat → Int32} {M : List am_C} {q : Nat × Nat} {T : TxT} {D : BdT} {r : RdT} {B : BdT} {V : MvT} {L : RwT} {F : RwT} {R : Nat → RwT} {S : SoT} {P : HeT} {oo : am_O} {e : RwT × MvT} {gg : Int64 → Int32 → RwT → Option (RwT × MvT)} (hx : x_Mover_fillChecks_R3_28 sn sx M q T D r B V L F R S P oo e) (hg : ∀ (l2 : Int64) (x4 : Int32) (w : RwT), gg l2 x4 w = some e → am_ev 4 k_Mover_fillChecks (28, [.ref 123, .ref 136, .long l2, am_ju, .int x4, am_ju, am_ju, am_ju, am_ju], [], (zl sn sx, xa xm T D r B (xb V L F (va_up R ((3 : Int32)).toNatClampNeg w) S P), M, q)) oo) {l2 : Int64} {x4 : Int32} {w : RwT} (hM : b_Mover_fillChecks_28 fu B V gg l2 x4 w = some e) : am_ev 4 k_Mover_fillChecks (28, [.ref 123, .ref 136, .long l2, am_ju, .int x4, am_ju, am_ju, am_ju, am_ju], [], (zl sn sx, xa xm T D r B (xb V L F (va_up R ((3 : Int32)).toNatClampNeg w) S P), M, q)) oo := by
  unfold b_Mover_fillChecks_28 at hM
  rcases am_if hM with ⟨c2, hM⟩ | ⟨c2, hM⟩
  · refine am_ev.kt 3 126 35 [.ref 123, .ref 136, .long l2, am_ju, .int x4, am_ju, am_ju, am_ju, am_ju] [] (zl sn sx, xa xm T D r B (xb V L F (va_up R ((3 : Int32)).toNatClampNeg w) S P), M, q) c2 (fun _ _ => rfl) ?_
    cases hM
    cases hx
    exact am_ev.kf 1 (fun _ _ => rfl)
  · refine am_ev.ke 3 126 35 [.ref 123, .ref 136, .long l2, am_ju, .int x4, am_ju, am_ju, am_ju, am_ju] [] (zl sn sx, xa xm T D r B (xb V L F (va_up R ((3 : Int32)).toNatClampNeg w) S P), M, q) c2 (fun _ _ => rfl) ?_
    rcases am_if hM with ⟨c3, hM⟩ | ⟨c3, hM⟩
    · refine am_ev.kt 4 126 41 [.ref 123, .ref 136, .long l2, am_ju, .int x4, am_ju, am_ju, am_ju, am_ju] [] (zl sn sx, xa xm T D r B (xb V L F (va_up R ((3 : Int32)).toNatClampNeg w) S P), M, q) c3 (fun _ _ => rfl) ?_
      cases hM
      cases hx
      exact am_ev.kf 1 (fun _ _ => rfl)
    · refine am_ev.ke 4 126 41 [.ref 123, .ref 136, .long l2, am_ju, .int x4, am_ju, am_ju, am_ju, am_ju] [] (zl sn sx, xa xm T D r B (xb V L F (va_up R ((3 : Int32)).toNatClampNeg w) S P), M, q) c3 (fun _ _ => rfl) ?_
      obtain ⟨rr, hc, hM⟩ := am_bind hM
      obtain ⟨r2, rfl⟩ : ∃ z, z = rr := ⟨_, rfl⟩
      refine am_ev.kg 1 (pc' := 42) (lv' := [.ref 123, .ref 136, .long l2, am_ju, .int x4, am_ju, am_ju, am_ju, am_ju]) (st' := [.long l2]) (h' := (zl sn sx, xa xm T D r B (xb V L F (va_up R ((3 : Int32)).toNatClampNeg w) S P), M, q)) (fun _ _ => rfl) ?_
      refine am_ev.call rfl rfl rfl ((s_Mover_lowest hc).mono (by decide)) ?_
      show am_ev _ k_Mover_fillChecks (45, [.ref 123, .ref 136, .long l2, am_ju, .int x4, am_ju, am_ju, am_ju, am_ju], [.int r2], (zl sn sx, xa xm T D r B (xb V L F (va_up R ((3 : Int32)).toNatClampNeg w) S P), M, q)) oo
      obtain ⟨c4, hM⟩ := am_ifn hM
      refine am_ev.kc 11 60 [.ref 123, .ref 136, .long (l2 &&& (l2 - (1 : Int64))), am_ju, .int x4, .int r2, am_ju, am_ju, am_ju] [.int ((bd_men B) (r2).toNatClampNeg)] (zl sn sx, xa xm T D r B (xb V L F (va_up R ((3 : Int32)).toNatClampNeg w) S P), M, q) c4 (fun _ _ => rfl) ?_
      rcases am_if hM with ⟨c5, hM⟩ | ⟨c5, hM⟩
      · refine am_ev.kt 12 85 79 [.ref 123, .ref 136, .long (l2 &&& (l2 - (1 : Int64))), am_ju, .int x4, .int r2, .int (((bd_men B) (r2).toNatClampNeg) &&& (7 : Int32)), am_ju, am_ju] [] (zl sn sx, xa xm T D r B (xb V L F (va_up R ((3 : Int32)).toNatClampNeg w) S P), M, q) c5 (fun _ _ => rfl) ?_
        obtain ⟨c6, hM⟩ := am_ifn hM
        refine am_ev.kc 4 92 [.ref 123, .ref 136, .long (l2 &&& (l2 - (1 : Int64))), am_ju, .int x4, .int r2, .int (((bd_men B) (r2).toNatClampNeg) &&& (7 : Int32)), am_ju, am_ju] [.long ((mv_aims V) ((((bd_men B) (r2).toNatClampNeg) &&& (7 : Int32))).toNatClampNeg)] (zl sn sx, xa xm T D r B (xb V L F (va_up R ((3 : Int32)).toNatClampNeg w) S P), M, q) c6 (fun _ _ => rfl) ?_
        exact sj_Mover_fillChecks_R3_92 hx hg hM
      · refine am_ev.ke 12 85 79 [.ref 123, .ref 136, .long (l2 &&& (l2 - (1 : Int64))), am_ju, .int x4, .int r2, .int (((bd_men B) (r2).toNatClampNeg) &&& (7 : Int32)), am_ju, am_ju] [] (zl sn sx, xa xm T D r B (xb V L F (va_up R ((3 : Int32)).toNatClampNeg w) S P), M, q) c5 (fun _ _ => rfl) ?_
        refine am_ev.kg 2 (pc' := 92) (lv' := [.ref 123, .ref 136, .long (l2 &&& (l2 - (1 : Int64))), am_ju, .int x4, .int r2, .int (((bd_men B) (r2).toNatClampNeg) &&& (7 : Int32)), am_ju, am_ju]) (st' := [.long (-1 : Int64)]) (h' := (zl sn sx, xa xm T D r B (xb V L F (va_up R ((3 : Int32)).toNatClampNeg w) S P), M, q)) (fun _ _ => rfl) ?_
        exact sj_Mover_fillChecks_R3_92 hx hg hM
theorem sl_Mover_fillChecks_R3_28 {fu : Nat} {sn : Nat} {sx : Nat → Int32} {M : List am_C} {q : Nat × Nat} {T : TxT} {D : BdT} {r : RdT} {B : BdT} {V : MvT} {L : RwT} {F : RwT} {R : Nat → RwT} {S : SoT} {P : HeT} {oo : am_O} {e : RwT × MvT} (hx : x_Mover_fillChecks_R3_28 sn sx M q T D r B V L F R S P oo e) : ∀ (n : Nat) (l2 : Int64) (x4 : Int32) (w : RwT), l_Mover_fillChecks_28 fu B V n l2 x4 w = some e → am_ev 4 k_Mover_fillChecks (28, [.ref 123, .ref 136, .long l2, am_ju, .int x4, am_ju, am_ju, am_ju, am_ju], [], (zl sn sx, xa xm T D r B (xb V L F (va_up R ((3 : Int32)).toNatClampNeg w) S P), M, q)) oo
  | 0, _, _, _, hM => by have h : (none : Option (RwT × MvT)) = some e := hM; cases h
  | n + 1, _, _, _, hM => sb_Mover_fillChecks_R3_28 hx (fun _ _ _ hM => sl_Mover_fillChecks_R3_28 hx n _ _ _ hM) hM
theorem se_Mover_fillChecks_R3 {fu : Nat} {sn : Nat} {sx : Nat → Int32} {M : List am_C} {q : Nat × Nat} {T : TxT} {D : BdT} {r : RdT} {B : BdT} {V : MvT} {L : RwT} {F : RwT} {R : Nat → RwT} {S : SoT} {P : HeT} {w : RwT} {oo : am_O} {e : RwT × MvT} (hx : y_Mover_fillChecks_R3 sn sx M q T D r B L F R S P oo e) (hM : f_Mover_fillChecks fu w B V = some e) : am_ev 4 k_Mover_fillChecks (0, [.ref 123, .ref 136, am_ju, am_ju, am_ju, am_ju, am_ju, am_ju, am_ju], [], (zl sn sx, xa xm T D r B (xb V L F (va_up R ((3 : Int32)).toNatClampNeg w) S P), M, q)) oo := by
  unfold f_Mover_fillChecks at hM
  obtain ⟨rr, hc, hM⟩ := am_bind hM
  obtain ⟨vg1, rfl⟩ : ∃ z, z = rr := ⟨_, rfl⟩
  refine am_ev.kg 1 (pc' := 1) (lv' := [.ref 123, .ref 136, am_ju, am_ju, am_ju, am_ju, am_ju, am_ju, am_ju]) (st' := [.ref 123]) (h' := (zl sn sx, xa xm T D r B (xb V L F (va_up R ((3 : Int32)).toNatClampNeg w) S P), M, q)) (fun _ _ => rfl) ?_
  refine am_ev.call rfl rfl rfl ((s_Mover_takeAim hc).mono (by decide)) ?_
  show am_ev _ k_Mover_fillChecks (4, [.ref 123, .ref 136, am_ju, am_ju, am_ju, am_ju, am_ju, am_ju, am_ju], [], (zl sn sx, xa xm T D r B (xb vg1 L F (va_up R ((3 : Int32)).toNatClampNeg w) S P), M, q)) oo
  obtain ⟨c7, hM⟩ := am_ifn hM
  refine am_ev.kc 10 24 [.ref 123, .ref 136, am_ju, am_ju, am_ju, am_ju, am_ju, am_ju, am_ju] [.long ((bd_held B) ((bd_side B)).toNatClampNeg)] (zl sn sx, xa xm T D r B (xb vg1 L F (va_up R ((3 : Int32)).toNatClampNeg ((rw_told w), (0 : Int32))) S P), M, q) c7 (fun _ _ => rfl) ?_
  refine am_ev.kg 3 (pc' := 28) (lv' := [.ref 123, .ref 136, .long ((bd_held B) ((bd_side B)).toNatClampNeg), am_ju, .int (0 : Int32), am_ju, am_ju, am_ju, am_ju]) (st' := []) (h' := (zl sn sx, xa xm T D r B (xb vg1 L F (va_up R ((3 : Int32)).toNatClampNeg ((rw_told w), (0 : Int32))) S P), M, q)) (fun _ _ => rfl) ?_
  obtain ⟨ow, oV⟩ := e
  refine sl_Mover_fillChecks_R3_28 ?_ _ _ _ _ hM
  exact hx
theorem s_Mover_fillChecks_R3 {fu : Nat} {sn : Nat} {sx : Nat → Int32} {M : List am_C} {q : Nat × Nat} {T : TxT} {D : BdT} {r : RdT} {B : BdT} {V : MvT} {L : RwT} {F : RwT} {R : Nat → RwT} {S : SoT} {P : HeT} {w : RwT} {ow : RwT} {oV : MvT} (hM : f_Mover_fillChecks fu w B V = some (ow, oV)) : am_cv 5 k_Mover_fillChecks [.ref 123, .ref 136] (zl sn sx, xa xm T D r B (xb V L F (va_up R ((3 : Int32)).toNatClampNeg w) S P), M, q) (.inl none, (zl sn sx, xa xm T D r B (xb oV L F (va_up R ((3 : Int32)).toNatClampNeg ow) S P), M, q)) := am_cv.of rfl (se_Mover_fillChecks_R3 (e := (ow, oV)) (show y_Mover_fillChecks_R3 sn sx M q T D r B L F R S P _ (ow, oV) from rfl) hM)
theorem s_Mover_fillChecks_R3x {fu : Nat} {sn : Nat} {sx : Nat → Int32} {M : List am_C} {q : Nat × Nat} {T : TxT} {D : BdT} {r : RdT} {B : BdT} {V : MvT} {L : RwT} {F : RwT} {R : Nat → RwT} {S : SoT} {P : HeT} {ow : RwT} {oV : MvT} (hM : f_Mover_fillChecks fu (R ((3 : Int32)).toNatClampNeg) B V = some (ow, oV)) : am_cv 5 k_Mover_fillChecks [.ref 123, .ref 136] (zl sn sx, xa xm T D r B (xb V L F R S P), M, q) (.inl none, (zl sn sx, xa xm T D r B (xb oV L F (va_up R ((3 : Int32)).toNatClampNeg ow) S P), M, q)) := by
  have h := s_Mover_fillChecks_R3 (sn := sn) (sx := sx) (M := M) (q := q) (R := R) (w := R ((3 : Int32)).toNatClampNeg) (T := T) (D := D) (r := r) (B := B) (V := V) (L := L) (F := F) (S := S) (P := P) hM
  rw [am_ups] at h
  exact h
def y_HelpLines_walk_p3 (sn : Nat) (sx : Nat → Int32) (M : List am_C) (q : Nat × Nat) (T : TxT) (D : BdT) (r : RdT) (L : RwT) (F : RwT) (S : SoT) (oo : am_O) : BdT × MvT × (Nat → RwT) × HeT → Prop
  | (oB, oV, oR, oP) => oo = (.inl none, (zl sn sx, xa xm T D r oB (xb oV L F oR S oP), M, q))
def x_HelpLines_walk_p3_70 (sn : Nat) (sx : Nat → Int32) (M : List am_C) (q : Nat × Nat) (T : TxT) (D : BdT) (r : RdT) (L : RwT) (F : RwT) (S : SoT) (x3 : Int32) (oo : am_O) : BdT × MvT × (Nat → RwT) × HeT → Prop
  | (oB, oV, oR, oP) => oo = (.inl none, (zl sn sx, xa xm T D r oB (xb oV L F oR S oP), M, q))
theorem sj_HelpLines_walk_p3_148 {fu : Nat} {dd : Nat} {sn : Nat} {sx : Nat → Int32} {M : List am_C} {q : Nat × Nat} {T : TxT} {D : BdT} {r : RdT} {B : BdT} {V : MvT} {L : RwT} {F : RwT} {R : Nat → RwT} {S : SoT} {P : HeT} {x3 : Int32} {x4 : Int32} {oo : am_O} {e : BdT × MvT × (Nat → RwT) × HeT} {gg : Int32 → BdT → MvT → (Nat → RwT) → HeT → Option (BdT × MvT × (Nat → RwT) × HeT)} (hx : x_HelpLines_walk_p3_70 sn sx M q T D r L F S x3 oo e) (hg : ∀ (x4 : Int32) (B : BdT) (V : MvT) (R : Nat → RwT) (P : HeT), gg x4 B V R P = some e → am_ev 6 k_HelpLines_walk (70, [.ref 144, .int (3 : Int32), .ref 136, .int x3, .int x4], [], (zl sn sx, xa xm T D r B (xb V L F R S P), M, q)) oo) (hM : j_HelpLines_walk_148 fu (g_HelpLines fu dd) gg B V R P (3 : Int32) x3 x4 = some e) : am_ev 6 k_HelpLines_walk (148, [.ref 144, .int (3 : Int32), .ref 136, .int x3, .int x4], [], (zl sn sx, xa xm T D r B (xb V L F R S P), M, q)) oo := by
  unfold j_HelpLines_walk_148 at hM
  obtain ⟨rr, hc, hM⟩ := am_bind hM
  obtain ⟨bg13, rfl⟩ : ∃ z, z = rr := ⟨_, rfl⟩
  refine am_ev.kg 2 (pc' := 152) (lv' := [.ref 144, .int (3 : Int32), .ref 136, .int x3, .int x4]) (st' := [.ref 114]) (h' := (zl sn sx, xa xm T D r B (xb V L F R S P), M, q)) (fun _ _ => rfl) ?_
  refine am_ev.call rfl rfl rfl ((s_Board_unmake_B hc).mono (by decide)) ?_
  show am_ev _ k_HelpLines_walk (155, [.ref 144, .int (3 : Int32), .ref 136, .int x3, .int x4], [], (zl sn sx, xa xm T D r bg13 (xb V L F R S P), M, q)) oo
  refine am_ev.kg 2 (pc' := 70) (lv' := [.ref 144, .int (3 : Int32), .ref 136, .int x3, .int (x4 + (1 : Int32))]) (st' := []) (h' := (zl sn sx, xa xm T D r bg13 (xb V L F R S P), M, q)) (fun _ _ => rfl) ?_
  exact hg _ _ _ _ _ hM
theorem sb_HelpLines_walk_p3_70 {fu : Nat} {dd : Nat} {sn : Nat} {sx : Nat → Int32} {M : List am_C} {q : Nat × Nat} {T : TxT} {D : BdT} {r : RdT} {L : RwT} {F : RwT} {S : SoT} {x3 : Int32} {oo : am_O} {e : BdT × MvT × (Nat → RwT) × HeT} {gg : Int32 → BdT → MvT → (Nat → RwT) → HeT → Option (BdT × MvT × (Nat → RwT) × HeT)} (hx : x_HelpLines_walk_p3_70 sn sx M q T D r L F S x3 oo e) (hg : ∀ (x4 : Int32) (B : BdT) (V : MvT) (R : Nat → RwT) (P : HeT), gg x4 B V R P = some e → am_ev 6 k_HelpLines_walk (70, [.ref 144, .int (3 : Int32), .ref 136, .int x3, .int x4], [], (zl sn sx, xa xm T D r B (xb V L F R S P), M, q)) oo) {x4 : Int32} {B : BdT} {V : MvT} {R : Nat → RwT} {P : HeT} (hM : b_HelpLines_walk_70 fu (g_HelpLines fu dd) (3 : Int32) x3 gg x4 B V R P = some e) : am_ev 6 k_HelpLines_walk (70, [.ref 144, .int (3 : Int32), .ref 136, .int x3, .int x4], [], (zl sn sx, xa xm T D r B (xb V L F R S P), M, q)) oo := by
  unfold b_HelpLines_walk_70 at hM
  rcases am_if hM with ⟨c1, hM⟩ | ⟨c1, hM⟩
  · refine am_ev.kt 4 161 79 [.ref 144, .int (3 : Int32), .ref 136, .int x3, .int x4] [] (zl sn sx, xa xm T D r B (xb V L F R S P), M, q) c1 (fun _ _ => rfl) ?_
    cases hM
    cases hx
    exact am_ev.kf 1 (fun _ _ => rfl)
  · refine am_ev.ke 4 161 79 [.ref 144, .int (3 : Int32), .ref 136, .int x3, .int x4] [] (zl sn sx, xa xm T D r B (xb V L F R S P), M, q) c1 (fun _ _ => rfl) ?_
    obtain ⟨c2, hM⟩ := am_ifn hM
    refine am_ev.kc 7 91 [.ref 144, .int (3 : Int32), .ref 136, .int x3, .int x4] [.int ((rw_told (R ((3 : Int32)).toNatClampNeg)) (x4).toNatClampNeg), .int (3 : Int32), .ref 145] (zl sn sx, xa xm T D r B (xb V L F R S P), M, q) c2 (fun _ _ => rfl) ?_
    obtain ⟨c3, hM⟩ := am_ifn hM
    refine am_ev.kc 1 92 [.ref 144, .int (3 : Int32), .ref 136, .int x3, .int x4] [] (zl sn sx, xa xm T D r B (xb V L F R S ((upd (he_path P) ((3 : Int32)).toNatClampNeg ((rw_told (R ((3 : Int32)).toNatClampNeg)) (x4).toNatClampNeg)), (he_kept P), (he_firstKept P), (he_known P), (he_goal P), (he_plies P), (he_count P))), M, q) c3 (fun _ _ => rfl) ?_
    obtain ⟨c4, hM⟩ := am_ifn hM
    refine am_ev.kc 6 103 [.ref 144, .int (3 : Int32), .ref 136, .int x3, .int x4] [.int ((rw_told (R ((3 : Int32)).toNatClampNeg)) (x4).toNatClampNeg), .ref 114] (zl sn sx, xa xm T D r B (xb V L F R S ((upd (he_path P) ((3 : Int32)).toNatClampNeg ((rw_told (R ((3 : Int32)).toNatClampNeg)) (x4).toNatClampNeg)), (he_kept P), (he_firstKept P), (he_known P), (he_goal P), (he_plies P), (he_count P))), M, q) c4 (fun _ _ => rfl) ?_
    obtain ⟨rr, hc, hM⟩ := am_bind hM
    obtain ⟨bg4, rfl⟩ : ∃ z, z = rr := ⟨_, rfl⟩
    refine am_ev.call rfl rfl rfl ((s_Board_make_B hc).mono (by decide)) ?_
    show am_ev _ k_HelpLines_walk (106, [.ref 144, .int (3 : Int32), .ref 136, .int x3, .int x4], [], (zl sn sx, xa xm T D r bg4 (xb V L F R S ((upd (he_path P) ((3 : Int32)).toNatClampNeg ((rw_told (R ((3 : Int32)).toNatClampNeg)) (x4).toNatClampNeg)), (he_kept P), (he_firstKept P), (he_known P), (he_goal P), (he_plies P), (he_count P))), M, q)) oo
    obtain ⟨rr, hc, hM⟩ := am_bind hM
    obtain ⟨r5, rfl⟩ : ∃ z, z = rr := ⟨_, rfl⟩
    refine am_ev.kg 2 (pc' := 110) (lv' := [.ref 144, .int (3 : Int32), .ref 136, .int x3, .int x4]) (st' := [.ref 114]) (h' := (zl sn sx, xa xm T D r bg4 (xb V L F R S ((upd (he_path P) ((3 : Int32)).toNatClampNeg ((rw_told (R ((3 : Int32)).toNatClampNeg)) (x4).toNatClampNeg)), (he_kept P), (he_firstKept P), (he_known P), (he_goal P), (he_plies P), (he_count P))), M, q)) (fun _ _ => rfl) ?_
    refine am_ev.call rfl rfl rfl ((s_Board_isLegal_B hc).mono (by decide)) ?_
    show am_ev _ k_HelpLines_walk (113, [.ref 144, .int (3 : Int32), .ref 136, .int x3, .int x4], [.int r5], (zl sn sx, xa xm T D r bg4 (xb V L F R S ((upd (he_path P) ((3 : Int32)).toNatClampNeg ((rw_told (R ((3 : Int32)).toNatClampNeg)) (x4).toNatClampNeg)), (he_kept P), (he_firstKept P), (he_known P), (he_goal P), (he_plies P), (he_count P))), M, q)) oo
    rcases am_if hM with ⟨c5, hM⟩ | ⟨c5, hM⟩
    · refine am_ev.kt 1 148 116 [.ref 144, .int (3 : Int32), .ref 136, .int x3, .int x4] [] (zl sn sx, xa xm T D r bg4 (xb V L F R S ((upd (he_path P) ((3 : Int32)).toNatClampNeg ((rw_told (R ((3 : Int32)).toNatClampNeg)) (x4).toNatClampNeg)), (he_kept P), (he_firstKept P), (he_known P), (he_goal P), (he_plies P), (he_count P))), M, q) c5 (fun _ _ => rfl) ?_
      exact sj_HelpLines_walk_p3_148 hx hg hM
    · refine am_ev.ke 1 148 116 [.ref 144, .int (3 : Int32), .ref 136, .int x3, .int x4] [] (zl sn sx, xa xm T D r bg4 (xb V L F R S ((upd (he_path P) ((3 : Int32)).toNatClampNeg ((rw_told (R ((3 : Int32)).toNatClampNeg)) (x4).toNatClampNeg)), (he_kept P), (he_firstKept P), (he_known P), (he_goal P), (he_plies P), (he_count P))), M, q) c5 (fun _ _ => rfl) ?_
      rcases am_if hM with ⟨c6, hM⟩ | ⟨c6, hM⟩
      · refine am_ev.kt 2 130 120 [.ref 144, .int (3 : Int32), .ref 136, .int x3, .int x4] [] (zl sn sx, xa xm T D r bg4 (xb V L F R S ((upd (he_path P) ((3 : Int32)).toNatClampNeg ((rw_told (R ((3 : Int32)).toNatClampNeg)) (x4).toNatClampNeg)), (he_kept P), (he_firstKept P), (he_known P), (he_goal P), (he_plies P), (he_count P))), M, q) c6 (fun _ _ => rfl) ?_
        obtain ⟨rr, hc, hM⟩ := am_bind hM
        obtain ⟨r6, bg7⟩ := rr
        refine am_ev.kg 4 (pc' := 138) (lv' := [.ref 144, .int (3 : Int32), .ref 136, .int x3, .int x4]) (st' := [.int (he_goal P), .ref 123]) (h' := (zl sn sx, xa xm T D r bg4 (xb V L F R S ((upd (he_path P) ((3 : Int32)).toNatClampNeg ((rw_told (R ((3 : Int32)).toNatClampNeg)) (x4).toNatClampNeg)), (he_kept P), (he_firstKept P), (he_known P), (he_goal P), (he_plies P), (he_count P))), M, q)) (fun _ _ => rfl) ?_
        refine am_ev.call rfl rfl rfl ((s_Mover_isBeaten hc).mono (by decide)) ?_
        show am_ev _ k_HelpLines_walk (141, [.ref 144, .int (3 : Int32), .ref 136, .int x3, .int x4], [.int r6], (zl sn sx, xa xm T D r bg7 (xb V L F R S ((upd (he_path P) ((3 : Int32)).toNatClampNeg ((rw_told (R ((3 : Int32)).toNatClampNeg)) (x4).toNatClampNeg)), (he_kept P), (he_firstKept P), (he_known P), (he_goal P), (he_plies P), (he_count P))), M, q)) oo
        rcases am_if hM with ⟨c7, hM⟩ | ⟨c7, hM⟩
        · refine am_ev.kt 1 148 144 [.ref 144, .int (3 : Int32), .ref 136, .int x3, .int x4] [] (zl sn sx, xa xm T D r bg7 (xb V L F R S ((upd (he_path P) ((3 : Int32)).toNatClampNeg ((rw_told (R ((3 : Int32)).toNatClampNeg)) (x4).toNatClampNeg)), (he_kept P), (he_firstKept P), (he_known P), (he_goal P), (he_plies P), (he_count P))), M, q) c7 (fun _ _ => rfl) ?_
          exact sj_HelpLines_walk_p3_148 hx hg hM
        · refine am_ev.ke 1 148 144 [.ref 144, .int (3 : Int32), .ref 136, .int x3, .int x4] [] (zl sn sx, xa xm T D r bg7 (xb V L F R S ((upd (he_path P) ((3 : Int32)).toNatClampNeg ((rw_told (R ((3 : Int32)).toNatClampNeg)) (x4).toNatClampNeg)), (he_kept P), (he_firstKept P), (he_known P), (he_goal P), (he_plies P), (he_count P))), M, q) c7 (fun _ _ => rfl) ?_
          obtain ⟨rr, hc, hM⟩ := am_bind hM
          obtain ⟨pg8, rfl⟩ : ∃ z, z = rr := ⟨_, rfl⟩
          refine am_ev.kg 1 (pc' := 145) (lv' := [.ref 144, .int (3 : Int32), .ref 136, .int x3, .int x4]) (st' := [.ref 144]) (h' := (zl sn sx, xa xm T D r bg7 (xb V L F R S ((upd (he_path P) ((3 : Int32)).toNatClampNeg ((rw_told (R ((3 : Int32)).toNatClampNeg)) (x4).toNatClampNeg)), (he_kept P), (he_firstKept P), (he_known P), (he_goal P), (he_plies P), (he_count P))), M, q)) (fun _ _ => rfl) ?_
          refine am_ev.call rfl rfl rfl ((s_HelpLines_keepPath hc).mono (by decide)) ?_
          show am_ev _ k_HelpLines_walk (148, [.ref 144, .int (3 : Int32), .ref 136, .int x3, .int x4], [], (zl sn sx, xa xm T D r bg7 (xb V L F R S pg8), M, q)) oo
          exact sj_HelpLines_walk_p3_148 hx hg hM
      · refine am_ev.ke 2 130 120 [.ref 144, .int (3 : Int32), .ref 136, .int x3, .int x4] [] (zl sn sx, xa xm T D r bg4 (xb V L F R S ((upd (he_path P) ((3 : Int32)).toNatClampNeg ((rw_told (R ((3 : Int32)).toNatClampNeg)) (x4).toNatClampNeg)), (he_kept P), (he_firstKept P), (he_known P), (he_goal P), (he_plies P), (he_count P))), M, q) c6 (fun _ _ => rfl) ?_
        obtain ⟨rr, hc, hM⟩ := am_bind hM
        obtain ⟨bg9, vg10, rg11, pg12⟩ := rr
        refine am_ev.kg 4 (pc' := 124) (lv' := [.ref 144, .int (3 : Int32), .ref 136, .int x3, .int x4]) (st' := [.int ((3 : Int32) + (1 : Int32)), .ref 144]) (h' := (zl sn sx, xa xm T D r bg4 (xb V L F R S ((upd (he_path P) ((3 : Int32)).toNatClampNeg ((rw_told (R ((3 : Int32)).toNatClampNeg)) (x4).toNatClampNeg)), (he_kept P), (he_firstKept P), (he_known P), (he_goal P), (he_plies P), (he_count P))), M, q)) (fun _ _ => rfl) ?_
        refine am_ev.call rfl rfl rfl ((s_HelpLines_walk_p4 hc).mono (by decide)) ?_
        show am_ev _ k_HelpLines_walk (127, [.ref 144, .int (3 : Int32), .ref 136, .int x3, .int x4], [], (zl sn sx, xa xm T D r bg9 (xb vg10 L F rg11 S pg12), M, q)) oo
        refine am_ev.kg 1 (pc' := 148) (lv' := [.ref 144, .int (3 : Int32), .ref 136, .int x3, .int x4]) (st' := []) (h' := (zl sn sx, xa xm T D r bg9 (xb vg10 L F rg11 S pg12), M, q)) (fun _ _ => rfl) ?_
        exact sj_HelpLines_walk_p3_148 hx hg hM
theorem sl_HelpLines_walk_p3_70 {fu : Nat} {dd : Nat} {sn : Nat} {sx : Nat → Int32} {M : List am_C} {q : Nat × Nat} {T : TxT} {D : BdT} {r : RdT} {L : RwT} {F : RwT} {S : SoT} {x3 : Int32} {oo : am_O} {e : BdT × MvT × (Nat → RwT) × HeT} (hx : x_HelpLines_walk_p3_70 sn sx M q T D r L F S x3 oo e) : ∀ (n : Nat) (x4 : Int32) (B : BdT) (V : MvT) (R : Nat → RwT) (P : HeT), l_HelpLines_walk_70 fu (g_HelpLines fu dd) (3 : Int32) x3 n x4 B V R P = some e → am_ev 6 k_HelpLines_walk (70, [.ref 144, .int (3 : Int32), .ref 136, .int x3, .int x4], [], (zl sn sx, xa xm T D r B (xb V L F R S P), M, q)) oo
  | 0, _, _, _, _, _, hM => by have h : (none : Option (BdT × MvT × (Nat → RwT) × HeT)) = some e := hM; cases h
  | n + 1, _, _, _, _, _, hM => sb_HelpLines_walk_p3_70 hx (fun _ _ _ _ _ hM => sl_HelpLines_walk_p3_70 hx n _ _ _ _ _ hM) hM
theorem sj_HelpLines_walk_p3_67 {fu : Nat} {dd : Nat} {sn : Nat} {sx : Nat → Int32} {M : List am_C} {q : Nat × Nat} {T : TxT} {D : BdT} {r : RdT} {B : BdT} {V : MvT} {L : RwT} {F : RwT} {R : Nat → RwT} {S : SoT} {P : HeT} {x3 : Int32} {oo : am_O} {e : BdT × MvT × (Nat → RwT) × HeT} (hx : y_HelpLines_walk_p3 sn sx M q T D r L F S oo e) (hM : j_HelpLines_walk_67 fu (g_HelpLines fu dd) B V R P (3 : Int32) x3 = some e) : am_ev 6 k_HelpLines_walk (67, [.ref 144, .int (3 : Int32), .ref 136, .int x3, am_ju], [], (zl sn sx, xa xm T D r B (xb V L F R S P), M, q)) oo := by
  unfold j_HelpLines_walk_67 at hM
  refine am_ev.kg 2 (pc' := 70) (lv' := [.ref 144, .int (3 : Int32), .ref 136, .int x3, .int (0 : Int32)]) (st' := []) (h' := (zl sn sx, xa xm T D r B (xb V L F R S P), M, q)) (fun _ _ => rfl) ?_
  obtain ⟨oB, oV, oR, oP⟩ := e
  refine sl_HelpLines_walk_p3_70 ?_ _ _ _ _ _ _ hM
  exact hx
theorem sj_HelpLines_walk_p3_59 {fu : Nat} {dd : Nat} {sn : Nat} {sx : Nat → Int32} {M : List am_C} {q : Nat × Nat} {T : TxT} {D : BdT} {r : RdT} {B : BdT} {V : MvT} {L : RwT} {F : RwT} {R : Nat → RwT} {S : SoT} {P : HeT} {x3 : Int32} {oo : am_O} {e : BdT × MvT × (Nat → RwT) × HeT} (hx : y_HelpLines_walk_p3 sn sx M q T D r L F S oo e) (hM : j_HelpLines_walk_59 fu (g_HelpLines fu dd) B V R P (3 : Int32) x3 = some e) : am_ev 6 k_HelpLines_walk (59, [.ref 144, .int (3 : Int32), .ref 136, .int x3, am_ju], [], (zl sn sx, xa xm T D r B (xb V L F R S P), M, q)) oo := by
  unfold j_HelpLines_walk_59 at hM
  obtain ⟨rr, hc, hM⟩ := am_bind hM
  obtain ⟨wg3, rfl⟩ : ∃ z, z = rr := ⟨_, rfl⟩
  refine am_ev.kg 3 (pc' := 64) (lv' := [.ref 144, .int (3 : Int32), .ref 136, .int x3, am_ju]) (st' := [.ref 136, .ref 123]) (h' := (zl sn sx, xa xm T D r B (xb V L F R S P), M, q)) (fun _ _ => rfl) ?_
  refine am_ev.call rfl rfl rfl ((s_Mover_fill_R3x hc).mono (by decide)) ?_
  show am_ev _ k_HelpLines_walk (67, [.ref 144, .int (3 : Int32), .ref 136, .int x3, am_ju], [], (zl sn sx, xa xm T D r B (xb V L F (va_up R ((3 : Int32)).toNatClampNeg wg3) S P), M, q)) oo
  exact sj_HelpLines_walk_p3_67 hx hM
theorem sj_HelpLines_walk_p3_36 {fu : Nat} {dd : Nat} {sn : Nat} {sx : Nat → Int32} {M : List am_C} {q : Nat × Nat} {T : TxT} {D : BdT} {r : RdT} {B : BdT} {V : MvT} {L : RwT} {F : RwT} {R : Nat → RwT} {S : SoT} {P : HeT} {s0 : Int32} {oo : am_O} {e : BdT × MvT × (Nat → RwT) × HeT} (hx : y_HelpLines_walk_p3 sn sx M q T D r L F S oo e) (hM : j_HelpLines_walk_36 fu (g_HelpLines fu dd) B V R P (3 : Int32) s0 = some e) : am_ev 6 k_HelpLines_walk (36, [.ref 144, .int (3 : Int32), .ref 136, am_ju, am_ju], [.int s0], (zl sn sx, xa xm T D r B (xb V L F R S P), M, q)) oo := by
  unfold j_HelpLines_walk_36 at hM
  rcases am_if hM with ⟨c8, hM⟩ | ⟨c8, hM⟩
  · refine am_ev.kt 3 59 41 [.ref 144, .int (3 : Int32), .ref 136, .int s0, am_ju] [] (zl sn sx, xa xm T D r B (xb V L F R S P), M, q) c8 (fun _ _ => rfl) ?_
    exact sj_HelpLines_walk_p3_59 hx hM
  · refine am_ev.ke 3 59 41 [.ref 144, .int (3 : Int32), .ref 136, .int s0, am_ju] [] (zl sn sx, xa xm T D r B (xb V L F R S P), M, q) c8 (fun _ _ => rfl) ?_
    rcases am_if hM with ⟨c9, hM⟩ | ⟨c9, hM⟩
    · refine am_ev.kt 3 59 48 [.ref 144, .int (3 : Int32), .ref 136, .int s0, am_ju] [] (zl sn sx, xa xm T D r B (xb V L F R S P), M, q) c9 (fun _ _ => rfl) ?_
      exact sj_HelpLines_walk_p3_59 hx hM
    · refine am_ev.ke 3 59 48 [.ref 144, .int (3 : Int32), .ref 136, .int s0, am_ju] [] (zl sn sx, xa xm T D r B (xb V L F R S P), M, q) c9 (fun _ _ => rfl) ?_
      obtain ⟨rr, hc, hM⟩ := am_bind hM
      obtain ⟨wg1, vg2⟩ := rr
      refine am_ev.kg 3 (pc' := 53) (lv' := [.ref 144, .int (3 : Int32), .ref 136, .int s0, am_ju]) (st' := [.ref 136, .ref 123]) (h' := (zl sn sx, xa xm T D r B (xb V L F R S P), M, q)) (fun _ _ => rfl) ?_
      refine am_ev.call rfl rfl rfl ((s_Mover_fillChecks_R3x hc).mono (by decide)) ?_
      show am_ev _ k_HelpLines_walk (56, [.ref 144, .int (3 : Int32), .ref 136, .int s0, am_ju], [], (zl sn sx, xa xm T D r B (xb vg2 L F (va_up R ((3 : Int32)).toNatClampNeg wg1) S P), M, q)) oo
      refine am_ev.kg 1 (pc' := 67) (lv' := [.ref 144, .int (3 : Int32), .ref 136, .int s0, am_ju]) (st' := []) (h' := (zl sn sx, xa xm T D r B (xb vg2 L F (va_up R ((3 : Int32)).toNatClampNeg wg1) S P), M, q)) (fun _ _ => rfl) ?_
      exact sj_HelpLines_walk_p3_67 hx hM
theorem se_HelpLines_walk_p3 {fu : Nat} {dd : Nat} {sn : Nat} {sx : Nat → Int32} {M : List am_C} {q : Nat × Nat} {T : TxT} {D : BdT} {r : RdT} {B : BdT} {V : MvT} {L : RwT} {F : RwT} {R : Nat → RwT} {S : SoT} {P : HeT} {oo : am_O} {e : BdT × MvT × (Nat → RwT) × HeT} (hx : y_HelpLines_walk_p3 sn sx M q T D r L F S oo e) (hM : e_HelpLines_walk fu (g_HelpLines fu dd) (3 : Int32) B V R P = some e) : am_ev 6 k_HelpLines_walk (0, [.ref 144, .int (3 : Int32), am_ju, am_ju, am_ju], [], (zl sn sx, xa xm T D r B (xb V L F R S P), M, q)) oo := by
  unfold e_HelpLines_walk at hM
  rcases am_if hM with ⟨c10, hM⟩ | ⟨c10, hM⟩
  · refine am_ev.kt 4 13 8 [.ref 144, .int (3 : Int32), am_ju, am_ju, am_ju] [] (zl sn sx, xa xm T D r B (xb V L F R S P), M, q) c10 (fun _ _ => rfl) ?_
    cases hM
    cases hx
    exact am_ev.kf 1 (fun _ _ => rfl)
  · refine am_ev.ke 4 13 8 [.ref 144, .int (3 : Int32), am_ju, am_ju, am_ju] [] (zl sn sx, xa xm T D r B (xb V L F R S P), M, q) c10 (fun _ _ => rfl) ?_
    rcases am_if hM with ⟨c11, hM⟩ | ⟨c11, hM⟩
    · refine am_ev.kt 3 14 13 [.ref 144, .int (3 : Int32), am_ju, am_ju, am_ju] [] (zl sn sx, xa xm T D r B (xb V L F R S P), M, q) c11 (fun _ _ => rfl) ?_
      obtain ⟨c12, hM⟩ := am_ifn hM
      refine am_ev.kc 4 20 [.ref 144, .int (3 : Int32), am_ju, am_ju, am_ju] [.ref 136] (zl sn sx, xa xm T D r B (xb V L F R S P), M, q) c12 (fun _ _ => rfl) ?_
      rcases am_if hM with ⟨c13, hM⟩ | ⟨c13, hM⟩
      · refine am_ev.kt 7 35 31 [.ref 144, .int (3 : Int32), .ref 136, am_ju, am_ju] [] (zl sn sx, xa xm T D r B (xb V L F R S P), M, q) c13 (fun _ _ => rfl) ?_
        refine am_ev.kg 1 (pc' := 36) (lv' := [.ref 144, .int (3 : Int32), .ref 136, am_ju, am_ju]) (st' := [.int (0 : Int32)]) (h' := (zl sn sx, xa xm T D r B (xb V L F R S P), M, q)) (fun _ _ => rfl) ?_
        exact sj_HelpLines_walk_p3_36 hx hM
      · refine am_ev.ke 7 35 31 [.ref 144, .int (3 : Int32), .ref 136, am_ju, am_ju] [] (zl sn sx, xa xm T D r B (xb V L F R S P), M, q) c13 (fun _ _ => rfl) ?_
        refine am_ev.kg 2 (pc' := 36) (lv' := [.ref 144, .int (3 : Int32), .ref 136, am_ju, am_ju]) (st' := [.int (1 : Int32)]) (h' := (zl sn sx, xa xm T D r B (xb V L F R S P), M, q)) (fun _ _ => rfl) ?_
        exact sj_HelpLines_walk_p3_36 hx hM
    · exact absurd c11 (by decide)
theorem s_HelpLines_walk_p3 {fu : Nat} {dd : Nat} {sn : Nat} {sx : Nat → Int32} {M : List am_C} {q : Nat × Nat} {T : TxT} {D : BdT} {r : RdT} {B : BdT} {V : MvT} {L : RwT} {F : RwT} {R : Nat → RwT} {S : SoT} {P : HeT} {oB : BdT} {oV : MvT} {oR : Nat → RwT} {oP : HeT} (hM : (g_HelpLines fu dd) (3 : Int32) B V R P = some (oB, oV, oR, oP)) : am_cv 7 k_HelpLines_walk [.ref 144, .int (3 : Int32)] (zl sn sx, xa xm T D r B (xb V L F R S P), M, q) (.inl none, (zl sn sx, xa xm T D r oB (xb oV L F oR S oP), M, q)) := by
  cases dd with
  | zero => have h : (none : Option (BdT × MvT × (Nat → RwT) × HeT)) = some (oB, oV, oR, oP) := hM; cases h
  | succ dd => exact am_cv.of rfl (se_HelpLines_walk_p3 (e := (oB, oV, oR, oP)) (show y_HelpLines_walk_p3 sn sx M q T D r L F S _ (oB, oV, oR, oP) from rfl) (show e_HelpLines_walk fu (g_HelpLines fu dd) (3 : Int32) B V R P = some (oB, oV, oR, oP) from hM))
def y_HelpLines_walk_p2 (sn : Nat) (sx : Nat → Int32) (M : List am_C) (q : Nat × Nat) (T : TxT) (D : BdT) (r : RdT) (L : RwT) (F : RwT) (S : SoT) (oo : am_O) : BdT × MvT × (Nat → RwT) × HeT → Prop
  | (oB, oV, oR, oP) => oo = (.inl none, (zl sn sx, xa xm T D r oB (xb oV L F oR S oP), M, q))
def x_HelpLines_walk_p2_70 (sn : Nat) (sx : Nat → Int32) (M : List am_C) (q : Nat × Nat) (T : TxT) (D : BdT) (r : RdT) (L : RwT) (F : RwT) (S : SoT) (x3 : Int32) (oo : am_O) : BdT × MvT × (Nat → RwT) × HeT → Prop
  | (oB, oV, oR, oP) => oo = (.inl none, (zl sn sx, xa xm T D r oB (xb oV L F oR S oP), M, q))
theorem sj_HelpLines_walk_p2_148 {fu : Nat} {dd : Nat} {sn : Nat} {sx : Nat → Int32} {M : List am_C} {q : Nat × Nat} {T : TxT} {D : BdT} {r : RdT} {B : BdT} {V : MvT} {L : RwT} {F : RwT} {R : Nat → RwT} {S : SoT} {P : HeT} {x3 : Int32} {x4 : Int32} {oo : am_O} {e : BdT × MvT × (Nat → RwT) × HeT} {gg : Int32 → BdT → MvT → (Nat → RwT) → HeT → Option (BdT × MvT × (Nat → RwT) × HeT)} (hx : x_HelpLines_walk_p2_70 sn sx M q T D r L F S x3 oo e) (hg : ∀ (x4 : Int32) (B : BdT) (V : MvT) (R : Nat → RwT) (P : HeT), gg x4 B V R P = some e → am_ev 7 k_HelpLines_walk (70, [.ref 144, .int (2 : Int32), .ref 134, .int x3, .int x4], [], (zl sn sx, xa xm T D r B (xb V L F R S P), M, q)) oo) (hM : j_HelpLines_walk_148 fu (g_HelpLines fu dd) gg B V R P (2 : Int32) x3 x4 = some e) : am_ev 7 k_HelpLines_walk (148, [.ref 144, .int (2 : Int32), .ref 134, .int x3, .int x4], [], (zl sn sx, xa xm T D r B (xb V L F R S P), M, q)) oo := by
  unfold j_HelpLines_walk_148 at hM
  obtain ⟨rr, hc, hM⟩ := am_bind hM
  obtain ⟨bg13, rfl⟩ : ∃ z, z = rr := ⟨_, rfl⟩
  refine am_ev.kg 2 (pc' := 152) (lv' := [.ref 144, .int (2 : Int32), .ref 134, .int x3, .int x4]) (st' := [.ref 114]) (h' := (zl sn sx, xa xm T D r B (xb V L F R S P), M, q)) (fun _ _ => rfl) ?_
  refine am_ev.call rfl rfl rfl ((s_Board_unmake_B hc).mono (by decide)) ?_
  show am_ev _ k_HelpLines_walk (155, [.ref 144, .int (2 : Int32), .ref 134, .int x3, .int x4], [], (zl sn sx, xa xm T D r bg13 (xb V L F R S P), M, q)) oo
  refine am_ev.kg 2 (pc' := 70) (lv' := [.ref 144, .int (2 : Int32), .ref 134, .int x3, .int (x4 + (1 : Int32))]) (st' := []) (h' := (zl sn sx, xa xm T D r bg13 (xb V L F R S P), M, q)) (fun _ _ => rfl) ?_
  exact hg _ _ _ _ _ hM
theorem sb_HelpLines_walk_p2_70 {fu : Nat} {dd : Nat} {sn : Nat} {sx : Nat → Int32} {M : List am_C} {q : Nat × Nat} {T : TxT} {D : BdT} {r : RdT} {L : RwT} {F : RwT} {S : SoT} {x3 : Int32} {oo : am_O} {e : BdT × MvT × (Nat → RwT) × HeT} {gg : Int32 → BdT → MvT → (Nat → RwT) → HeT → Option (BdT × MvT × (Nat → RwT) × HeT)} (hx : x_HelpLines_walk_p2_70 sn sx M q T D r L F S x3 oo e) (hg : ∀ (x4 : Int32) (B : BdT) (V : MvT) (R : Nat → RwT) (P : HeT), gg x4 B V R P = some e → am_ev 7 k_HelpLines_walk (70, [.ref 144, .int (2 : Int32), .ref 134, .int x3, .int x4], [], (zl sn sx, xa xm T D r B (xb V L F R S P), M, q)) oo) {x4 : Int32} {B : BdT} {V : MvT} {R : Nat → RwT} {P : HeT} (hM : b_HelpLines_walk_70 fu (g_HelpLines fu dd) (2 : Int32) x3 gg x4 B V R P = some e) : am_ev 7 k_HelpLines_walk (70, [.ref 144, .int (2 : Int32), .ref 134, .int x3, .int x4], [], (zl sn sx, xa xm T D r B (xb V L F R S P), M, q)) oo := by
  unfold b_HelpLines_walk_70 at hM
  rcases am_if hM with ⟨c1, hM⟩ | ⟨c1, hM⟩
  · refine am_ev.kt 4 161 79 [.ref 144, .int (2 : Int32), .ref 134, .int x3, .int x4] [] (zl sn sx, xa xm T D r B (xb V L F R S P), M, q) c1 (fun _ _ => rfl) ?_
    cases hM
    cases hx
    exact am_ev.kf 1 (fun _ _ => rfl)
  · refine am_ev.ke 4 161 79 [.ref 144, .int (2 : Int32), .ref 134, .int x3, .int x4] [] (zl sn sx, xa xm T D r B (xb V L F R S P), M, q) c1 (fun _ _ => rfl) ?_
    obtain ⟨c2, hM⟩ := am_ifn hM
    refine am_ev.kc 7 91 [.ref 144, .int (2 : Int32), .ref 134, .int x3, .int x4] [.int ((rw_told (R ((2 : Int32)).toNatClampNeg)) (x4).toNatClampNeg), .int (2 : Int32), .ref 145] (zl sn sx, xa xm T D r B (xb V L F R S P), M, q) c2 (fun _ _ => rfl) ?_
    obtain ⟨c3, hM⟩ := am_ifn hM
    refine am_ev.kc 1 92 [.ref 144, .int (2 : Int32), .ref 134, .int x3, .int x4] [] (zl sn sx, xa xm T D r B (xb V L F R S ((upd (he_path P) ((2 : Int32)).toNatClampNeg ((rw_told (R ((2 : Int32)).toNatClampNeg)) (x4).toNatClampNeg)), (he_kept P), (he_firstKept P), (he_known P), (he_goal P), (he_plies P), (he_count P))), M, q) c3 (fun _ _ => rfl) ?_
    obtain ⟨c4, hM⟩ := am_ifn hM
    refine am_ev.kc 6 103 [.ref 144, .int (2 : Int32), .ref 134, .int x3, .int x4] [.int ((rw_told (R ((2 : Int32)).toNatClampNeg)) (x4).toNatClampNeg), .ref 114] (zl sn sx, xa xm T D r B (xb V L F R S ((upd (he_path P) ((2 : Int32)).toNatClampNeg ((rw_told (R ((2 : Int32)).toNatClampNeg)) (x4).toNatClampNeg)), (he_kept P), (he_firstKept P), (he_known P), (he_goal P), (he_plies P), (he_count P))), M, q) c4 (fun _ _ => rfl) ?_
    obtain ⟨rr, hc, hM⟩ := am_bind hM
    obtain ⟨bg4, rfl⟩ : ∃ z, z = rr := ⟨_, rfl⟩
    refine am_ev.call rfl rfl rfl ((s_Board_make_B hc).mono (by decide)) ?_
    show am_ev _ k_HelpLines_walk (106, [.ref 144, .int (2 : Int32), .ref 134, .int x3, .int x4], [], (zl sn sx, xa xm T D r bg4 (xb V L F R S ((upd (he_path P) ((2 : Int32)).toNatClampNeg ((rw_told (R ((2 : Int32)).toNatClampNeg)) (x4).toNatClampNeg)), (he_kept P), (he_firstKept P), (he_known P), (he_goal P), (he_plies P), (he_count P))), M, q)) oo
    obtain ⟨rr, hc, hM⟩ := am_bind hM
    obtain ⟨r5, rfl⟩ : ∃ z, z = rr := ⟨_, rfl⟩
    refine am_ev.kg 2 (pc' := 110) (lv' := [.ref 144, .int (2 : Int32), .ref 134, .int x3, .int x4]) (st' := [.ref 114]) (h' := (zl sn sx, xa xm T D r bg4 (xb V L F R S ((upd (he_path P) ((2 : Int32)).toNatClampNeg ((rw_told (R ((2 : Int32)).toNatClampNeg)) (x4).toNatClampNeg)), (he_kept P), (he_firstKept P), (he_known P), (he_goal P), (he_plies P), (he_count P))), M, q)) (fun _ _ => rfl) ?_
    refine am_ev.call rfl rfl rfl ((s_Board_isLegal_B hc).mono (by decide)) ?_
    show am_ev _ k_HelpLines_walk (113, [.ref 144, .int (2 : Int32), .ref 134, .int x3, .int x4], [.int r5], (zl sn sx, xa xm T D r bg4 (xb V L F R S ((upd (he_path P) ((2 : Int32)).toNatClampNeg ((rw_told (R ((2 : Int32)).toNatClampNeg)) (x4).toNatClampNeg)), (he_kept P), (he_firstKept P), (he_known P), (he_goal P), (he_plies P), (he_count P))), M, q)) oo
    rcases am_if hM with ⟨c5, hM⟩ | ⟨c5, hM⟩
    · refine am_ev.kt 1 148 116 [.ref 144, .int (2 : Int32), .ref 134, .int x3, .int x4] [] (zl sn sx, xa xm T D r bg4 (xb V L F R S ((upd (he_path P) ((2 : Int32)).toNatClampNeg ((rw_told (R ((2 : Int32)).toNatClampNeg)) (x4).toNatClampNeg)), (he_kept P), (he_firstKept P), (he_known P), (he_goal P), (he_plies P), (he_count P))), M, q) c5 (fun _ _ => rfl) ?_
      exact sj_HelpLines_walk_p2_148 hx hg hM
    · refine am_ev.ke 1 148 116 [.ref 144, .int (2 : Int32), .ref 134, .int x3, .int x4] [] (zl sn sx, xa xm T D r bg4 (xb V L F R S ((upd (he_path P) ((2 : Int32)).toNatClampNeg ((rw_told (R ((2 : Int32)).toNatClampNeg)) (x4).toNatClampNeg)), (he_kept P), (he_firstKept P), (he_known P), (he_goal P), (he_plies P), (he_count P))), M, q) c5 (fun _ _ => rfl) ?_
      rcases am_if hM with ⟨c6, hM⟩ | ⟨c6, hM⟩
      · refine am_ev.kt 2 130 120 [.ref 144, .int (2 : Int32), .ref 134, .int x3, .int x4] [] (zl sn sx, xa xm T D r bg4 (xb V L F R S ((upd (he_path P) ((2 : Int32)).toNatClampNeg ((rw_told (R ((2 : Int32)).toNatClampNeg)) (x4).toNatClampNeg)), (he_kept P), (he_firstKept P), (he_known P), (he_goal P), (he_plies P), (he_count P))), M, q) c6 (fun _ _ => rfl) ?_
        obtain ⟨rr, hc, hM⟩ := am_bind hM
        obtain ⟨r6, bg7⟩ := rr
        refine am_ev.kg 4 (pc' := 138) (lv' := [.ref 144, .int (2 : Int32), .ref 134, .int x3, .int x4]) (st' := [.int (he_goal P), .ref 123]) (h' := (zl sn sx, xa xm T D r bg4 (xb V L F R S ((upd (he_path P) ((2 : Int32)).toNatClampNeg ((rw_told (R ((2 : Int32)).toNatClampNeg)) (x4).toNatClampNeg)), (he_kept P), (he_firstKept P), (he_known P), (he_goal P), (he_plies P), (he_count P))), M, q)) (fun _ _ => rfl) ?_
        refine am_ev.call rfl rfl rfl ((s_Mover_isBeaten hc).mono (by decide)) ?_
        show am_ev _ k_HelpLines_walk (141, [.ref 144, .int (2 : Int32), .ref 134, .int x3, .int x4], [.int r6], (zl sn sx, xa xm T D r bg7 (xb V L F R S ((upd (he_path P) ((2 : Int32)).toNatClampNeg ((rw_told (R ((2 : Int32)).toNatClampNeg)) (x4).toNatClampNeg)), (he_kept P), (he_firstKept P), (he_known P), (he_goal P), (he_plies P), (he_count P))), M, q)) oo
        rcases am_if hM with ⟨c7, hM⟩ | ⟨c7, hM⟩
        · refine am_ev.kt 1 148 144 [.ref 144, .int (2 : Int32), .ref 134, .int x3, .int x4] [] (zl sn sx, xa xm T D r bg7 (xb V L F R S ((upd (he_path P) ((2 : Int32)).toNatClampNeg ((rw_told (R ((2 : Int32)).toNatClampNeg)) (x4).toNatClampNeg)), (he_kept P), (he_firstKept P), (he_known P), (he_goal P), (he_plies P), (he_count P))), M, q) c7 (fun _ _ => rfl) ?_
          exact sj_HelpLines_walk_p2_148 hx hg hM
        · refine am_ev.ke 1 148 144 [.ref 144, .int (2 : Int32), .ref 134, .int x3, .int x4] [] (zl sn sx, xa xm T D r bg7 (xb V L F R S ((upd (he_path P) ((2 : Int32)).toNatClampNeg ((rw_told (R ((2 : Int32)).toNatClampNeg)) (x4).toNatClampNeg)), (he_kept P), (he_firstKept P), (he_known P), (he_goal P), (he_plies P), (he_count P))), M, q) c7 (fun _ _ => rfl) ?_
          obtain ⟨rr, hc, hM⟩ := am_bind hM
          obtain ⟨pg8, rfl⟩ : ∃ z, z = rr := ⟨_, rfl⟩
          refine am_ev.kg 1 (pc' := 145) (lv' := [.ref 144, .int (2 : Int32), .ref 134, .int x3, .int x4]) (st' := [.ref 144]) (h' := (zl sn sx, xa xm T D r bg7 (xb V L F R S ((upd (he_path P) ((2 : Int32)).toNatClampNeg ((rw_told (R ((2 : Int32)).toNatClampNeg)) (x4).toNatClampNeg)), (he_kept P), (he_firstKept P), (he_known P), (he_goal P), (he_plies P), (he_count P))), M, q)) (fun _ _ => rfl) ?_
          refine am_ev.call rfl rfl rfl ((s_HelpLines_keepPath hc).mono (by decide)) ?_
          show am_ev _ k_HelpLines_walk (148, [.ref 144, .int (2 : Int32), .ref 134, .int x3, .int x4], [], (zl sn sx, xa xm T D r bg7 (xb V L F R S pg8), M, q)) oo
          exact sj_HelpLines_walk_p2_148 hx hg hM
      · refine am_ev.ke 2 130 120 [.ref 144, .int (2 : Int32), .ref 134, .int x3, .int x4] [] (zl sn sx, xa xm T D r bg4 (xb V L F R S ((upd (he_path P) ((2 : Int32)).toNatClampNeg ((rw_told (R ((2 : Int32)).toNatClampNeg)) (x4).toNatClampNeg)), (he_kept P), (he_firstKept P), (he_known P), (he_goal P), (he_plies P), (he_count P))), M, q) c6 (fun _ _ => rfl) ?_
        obtain ⟨rr, hc, hM⟩ := am_bind hM
        obtain ⟨bg9, vg10, rg11, pg12⟩ := rr
        refine am_ev.kg 4 (pc' := 124) (lv' := [.ref 144, .int (2 : Int32), .ref 134, .int x3, .int x4]) (st' := [.int ((2 : Int32) + (1 : Int32)), .ref 144]) (h' := (zl sn sx, xa xm T D r bg4 (xb V L F R S ((upd (he_path P) ((2 : Int32)).toNatClampNeg ((rw_told (R ((2 : Int32)).toNatClampNeg)) (x4).toNatClampNeg)), (he_kept P), (he_firstKept P), (he_known P), (he_goal P), (he_plies P), (he_count P))), M, q)) (fun _ _ => rfl) ?_
        refine am_ev.call rfl rfl rfl ((s_HelpLines_walk_p3 hc).mono (by decide)) ?_
        show am_ev _ k_HelpLines_walk (127, [.ref 144, .int (2 : Int32), .ref 134, .int x3, .int x4], [], (zl sn sx, xa xm T D r bg9 (xb vg10 L F rg11 S pg12), M, q)) oo
        refine am_ev.kg 1 (pc' := 148) (lv' := [.ref 144, .int (2 : Int32), .ref 134, .int x3, .int x4]) (st' := []) (h' := (zl sn sx, xa xm T D r bg9 (xb vg10 L F rg11 S pg12), M, q)) (fun _ _ => rfl) ?_
        exact sj_HelpLines_walk_p2_148 hx hg hM
theorem sl_HelpLines_walk_p2_70 {fu : Nat} {dd : Nat} {sn : Nat} {sx : Nat → Int32} {M : List am_C} {q : Nat × Nat} {T : TxT} {D : BdT} {r : RdT} {L : RwT} {F : RwT} {S : SoT} {x3 : Int32} {oo : am_O} {e : BdT × MvT × (Nat → RwT) × HeT} (hx : x_HelpLines_walk_p2_70 sn sx M q T D r L F S x3 oo e) : ∀ (n : Nat) (x4 : Int32) (B : BdT) (V : MvT) (R : Nat → RwT) (P : HeT), l_HelpLines_walk_70 fu (g_HelpLines fu dd) (2 : Int32) x3 n x4 B V R P = some e → am_ev 7 k_HelpLines_walk (70, [.ref 144, .int (2 : Int32), .ref 134, .int x3, .int x4], [], (zl sn sx, xa xm T D r B (xb V L F R S P), M, q)) oo
  | 0, _, _, _, _, _, hM => by have h : (none : Option (BdT × MvT × (Nat → RwT) × HeT)) = some e := hM; cases h
  | n + 1, _, _, _, _, _, hM => sb_HelpLines_walk_p2_70 hx (fun _ _ _ _ _ hM => sl_HelpLines_walk_p2_70 hx n _ _ _ _ _ hM) hM
theorem sj_HelpLines_walk_p2_67 {fu : Nat} {dd : Nat} {sn : Nat} {sx : Nat → Int32} {M : List am_C} {q : Nat × Nat} {T : TxT} {D : BdT} {r : RdT} {B : BdT} {V : MvT} {L : RwT} {F : RwT} {R : Nat → RwT} {S : SoT} {P : HeT} {x3 : Int32} {oo : am_O} {e : BdT × MvT × (Nat → RwT) × HeT} (hx : y_HelpLines_walk_p2 sn sx M q T D r L F S oo e) (hM : j_HelpLines_walk_67 fu (g_HelpLines fu dd) B V R P (2 : Int32) x3 = some e) : am_ev 7 k_HelpLines_walk (67, [.ref 144, .int (2 : Int32), .ref 134, .int x3, am_ju], [], (zl sn sx, xa xm T D r B (xb V L F R S P), M, q)) oo := by
  unfold j_HelpLines_walk_67 at hM
  refine am_ev.kg 2 (pc' := 70) (lv' := [.ref 144, .int (2 : Int32), .ref 134, .int x3, .int (0 : Int32)]) (st' := []) (h' := (zl sn sx, xa xm T D r B (xb V L F R S P), M, q)) (fun _ _ => rfl) ?_
  obtain ⟨oB, oV, oR, oP⟩ := e
  refine sl_HelpLines_walk_p2_70 ?_ _ _ _ _ _ _ hM
  exact hx
theorem sj_HelpLines_walk_p2_59 {fu : Nat} {dd : Nat} {sn : Nat} {sx : Nat → Int32} {M : List am_C} {q : Nat × Nat} {T : TxT} {D : BdT} {r : RdT} {B : BdT} {V : MvT} {L : RwT} {F : RwT} {R : Nat → RwT} {S : SoT} {P : HeT} {x3 : Int32} {oo : am_O} {e : BdT × MvT × (Nat → RwT) × HeT} (hx : y_HelpLines_walk_p2 sn sx M q T D r L F S oo e) (hM : j_HelpLines_walk_59 fu (g_HelpLines fu dd) B V R P (2 : Int32) x3 = some e) : am_ev 7 k_HelpLines_walk (59, [.ref 144, .int (2 : Int32), .ref 134, .int x3, am_ju], [], (zl sn sx, xa xm T D r B (xb V L F R S P), M, q)) oo := by
  unfold j_HelpLines_walk_59 at hM
  obtain ⟨rr, hc, hM⟩ := am_bind hM
  obtain ⟨wg3, rfl⟩ : ∃ z, z = rr := ⟨_, rfl⟩
  refine am_ev.kg 3 (pc' := 64) (lv' := [.ref 144, .int (2 : Int32), .ref 134, .int x3, am_ju]) (st' := [.ref 134, .ref 123]) (h' := (zl sn sx, xa xm T D r B (xb V L F R S P), M, q)) (fun _ _ => rfl) ?_
  refine am_ev.call rfl rfl rfl ((s_Mover_fill_R2x hc).mono (by decide)) ?_
  show am_ev _ k_HelpLines_walk (67, [.ref 144, .int (2 : Int32), .ref 134, .int x3, am_ju], [], (zl sn sx, xa xm T D r B (xb V L F (va_up R ((2 : Int32)).toNatClampNeg wg3) S P), M, q)) oo
  exact sj_HelpLines_walk_p2_67 hx hM
theorem sj_HelpLines_walk_p2_36 {fu : Nat} {dd : Nat} {sn : Nat} {sx : Nat → Int32} {M : List am_C} {q : Nat × Nat} {T : TxT} {D : BdT} {r : RdT} {B : BdT} {V : MvT} {L : RwT} {F : RwT} {R : Nat → RwT} {S : SoT} {P : HeT} {s0 : Int32} {oo : am_O} {e : BdT × MvT × (Nat → RwT) × HeT} (hx : y_HelpLines_walk_p2 sn sx M q T D r L F S oo e) (hM : j_HelpLines_walk_36 fu (g_HelpLines fu dd) B V R P (2 : Int32) s0 = some e) : am_ev 7 k_HelpLines_walk (36, [.ref 144, .int (2 : Int32), .ref 134, am_ju, am_ju], [.int s0], (zl sn sx, xa xm T D r B (xb V L F R S P), M, q)) oo := by
  unfold j_HelpLines_walk_36 at hM
  rcases am_if hM with ⟨c8, hM⟩ | ⟨c8, hM⟩
  · refine am_ev.kt 3 59 41 [.ref 144, .int (2 : Int32), .ref 134, .int s0, am_ju] [] (zl sn sx, xa xm T D r B (xb V L F R S P), M, q) c8 (fun _ _ => rfl) ?_
    exact sj_HelpLines_walk_p2_59 hx hM
  · refine am_ev.ke 3 59 41 [.ref 144, .int (2 : Int32), .ref 134, .int s0, am_ju] [] (zl sn sx, xa xm T D r B (xb V L F R S P), M, q) c8 (fun _ _ => rfl) ?_
    rcases am_if hM with ⟨c9, hM⟩ | ⟨c9, hM⟩
    · refine am_ev.kt 3 59 48 [.ref 144, .int (2 : Int32), .ref 134, .int s0, am_ju] [] (zl sn sx, xa xm T D r B (xb V L F R S P), M, q) c9 (fun _ _ => rfl) ?_
      exact sj_HelpLines_walk_p2_59 hx hM
    · refine am_ev.ke 3 59 48 [.ref 144, .int (2 : Int32), .ref 134, .int s0, am_ju] [] (zl sn sx, xa xm T D r B (xb V L F R S P), M, q) c9 (fun _ _ => rfl) ?_
      obtain ⟨rr, hc, hM⟩ := am_bind hM
      obtain ⟨wg1, vg2⟩ := rr
      refine am_ev.kg 3 (pc' := 53) (lv' := [.ref 144, .int (2 : Int32), .ref 134, .int s0, am_ju]) (st' := [.ref 134, .ref 123]) (h' := (zl sn sx, xa xm T D r B (xb V L F R S P), M, q)) (fun _ _ => rfl) ?_
      refine am_ev.call rfl rfl rfl ((s_Mover_fillChecks_R2x hc).mono (by decide)) ?_
      show am_ev _ k_HelpLines_walk (56, [.ref 144, .int (2 : Int32), .ref 134, .int s0, am_ju], [], (zl sn sx, xa xm T D r B (xb vg2 L F (va_up R ((2 : Int32)).toNatClampNeg wg1) S P), M, q)) oo
      refine am_ev.kg 1 (pc' := 67) (lv' := [.ref 144, .int (2 : Int32), .ref 134, .int s0, am_ju]) (st' := []) (h' := (zl sn sx, xa xm T D r B (xb vg2 L F (va_up R ((2 : Int32)).toNatClampNeg wg1) S P), M, q)) (fun _ _ => rfl) ?_
      exact sj_HelpLines_walk_p2_67 hx hM
theorem se_HelpLines_walk_p2 {fu : Nat} {dd : Nat} {sn : Nat} {sx : Nat → Int32} {M : List am_C} {q : Nat × Nat} {T : TxT} {D : BdT} {r : RdT} {B : BdT} {V : MvT} {L : RwT} {F : RwT} {R : Nat → RwT} {S : SoT} {P : HeT} {oo : am_O} {e : BdT × MvT × (Nat → RwT) × HeT} (hx : y_HelpLines_walk_p2 sn sx M q T D r L F S oo e) (hM : e_HelpLines_walk fu (g_HelpLines fu dd) (2 : Int32) B V R P = some e) : am_ev 7 k_HelpLines_walk (0, [.ref 144, .int (2 : Int32), am_ju, am_ju, am_ju], [], (zl sn sx, xa xm T D r B (xb V L F R S P), M, q)) oo := by
  unfold e_HelpLines_walk at hM
  rcases am_if hM with ⟨c10, hM⟩ | ⟨c10, hM⟩
  · refine am_ev.kt 4 13 8 [.ref 144, .int (2 : Int32), am_ju, am_ju, am_ju] [] (zl sn sx, xa xm T D r B (xb V L F R S P), M, q) c10 (fun _ _ => rfl) ?_
    cases hM
    cases hx
    exact am_ev.kf 1 (fun _ _ => rfl)
  · refine am_ev.ke 4 13 8 [.ref 144, .int (2 : Int32), am_ju, am_ju, am_ju] [] (zl sn sx, xa xm T D r B (xb V L F R S P), M, q) c10 (fun _ _ => rfl) ?_
    rcases am_if hM with ⟨c11, hM⟩ | ⟨c11, hM⟩
    · refine am_ev.kt 3 14 13 [.ref 144, .int (2 : Int32), am_ju, am_ju, am_ju] [] (zl sn sx, xa xm T D r B (xb V L F R S P), M, q) c11 (fun _ _ => rfl) ?_
      obtain ⟨c12, hM⟩ := am_ifn hM
      refine am_ev.kc 4 20 [.ref 144, .int (2 : Int32), am_ju, am_ju, am_ju] [.ref 134] (zl sn sx, xa xm T D r B (xb V L F R S P), M, q) c12 (fun _ _ => rfl) ?_
      rcases am_if hM with ⟨c13, hM⟩ | ⟨c13, hM⟩
      · refine am_ev.kt 7 35 31 [.ref 144, .int (2 : Int32), .ref 134, am_ju, am_ju] [] (zl sn sx, xa xm T D r B (xb V L F R S P), M, q) c13 (fun _ _ => rfl) ?_
        refine am_ev.kg 1 (pc' := 36) (lv' := [.ref 144, .int (2 : Int32), .ref 134, am_ju, am_ju]) (st' := [.int (0 : Int32)]) (h' := (zl sn sx, xa xm T D r B (xb V L F R S P), M, q)) (fun _ _ => rfl) ?_
        exact sj_HelpLines_walk_p2_36 hx hM
      · refine am_ev.ke 7 35 31 [.ref 144, .int (2 : Int32), .ref 134, am_ju, am_ju] [] (zl sn sx, xa xm T D r B (xb V L F R S P), M, q) c13 (fun _ _ => rfl) ?_
        refine am_ev.kg 2 (pc' := 36) (lv' := [.ref 144, .int (2 : Int32), .ref 134, am_ju, am_ju]) (st' := [.int (1 : Int32)]) (h' := (zl sn sx, xa xm T D r B (xb V L F R S P), M, q)) (fun _ _ => rfl) ?_
        exact sj_HelpLines_walk_p2_36 hx hM
    · exact absurd c11 (by decide)
theorem s_HelpLines_walk_p2 {fu : Nat} {dd : Nat} {sn : Nat} {sx : Nat → Int32} {M : List am_C} {q : Nat × Nat} {T : TxT} {D : BdT} {r : RdT} {B : BdT} {V : MvT} {L : RwT} {F : RwT} {R : Nat → RwT} {S : SoT} {P : HeT} {oB : BdT} {oV : MvT} {oR : Nat → RwT} {oP : HeT} (hM : (g_HelpLines fu dd) (2 : Int32) B V R P = some (oB, oV, oR, oP)) : am_cv 8 k_HelpLines_walk [.ref 144, .int (2 : Int32)] (zl sn sx, xa xm T D r B (xb V L F R S P), M, q) (.inl none, (zl sn sx, xa xm T D r oB (xb oV L F oR S oP), M, q)) := by
  cases dd with
  | zero => have h : (none : Option (BdT × MvT × (Nat → RwT) × HeT)) = some (oB, oV, oR, oP) := hM; cases h
  | succ dd => exact am_cv.of rfl (se_HelpLines_walk_p2 (e := (oB, oV, oR, oP)) (show y_HelpLines_walk_p2 sn sx M q T D r L F S _ (oB, oV, oR, oP) from rfl) (show e_HelpLines_walk fu (g_HelpLines fu dd) (2 : Int32) B V R P = some (oB, oV, oR, oP) from hM))
def y_Mover_fill_R1 (sn : Nat) (sx : Nat → Int32) (M : List am_C) (q : Nat × Nat) (T : TxT) (D : BdT) (r : RdT) (B : BdT) (V : MvT) (L : RwT) (F : RwT) (R : Nat → RwT) (S : SoT) (P : HeT) (oo : am_O) : RwT → Prop
  | ow => oo = (.inl none, (zl sn sx, xa xm T D r B (xb V L F (va_up R ((1 : Int32)).toNatClampNeg ow) S P), M, q))
def x_Mover_fill_R1_24 (sn : Nat) (sx : Nat → Int32) (M : List am_C) (q : Nat × Nat) (T : TxT) (D : BdT) (r : RdT) (B : BdT) (V : MvT) (L : RwT) (F : RwT) (R : Nat → RwT) (S : SoT) (P : HeT) (oo : am_O) : RwT → Prop
  | ow => oo = (.inl none, (zl sn sx, xa xm T D r B (xb V L F (va_up R ((1 : Int32)).toNatClampNeg ow) S P), M, q))
theorem sj_Mover_fill_R1_77 {fu : Nat} {sn : Nat} {sx : Nat → Int32} {M : List am_C} {q : Nat × Nat} {T : TxT} {D : BdT} {r : RdT} {B : BdT} {V : MvT} {L : RwT} {F : RwT} {R : Nat → RwT} {S : SoT} {P : HeT} {w : RwT} {l2 : Int64} {x4 : Int32} {s1 : Int32} {t2 : Int64} {s3 : Int32} {oo : am_O} {e : RwT} {gg : Int64 → Int32 → RwT → Option (RwT)} (hx : x_Mover_fill_R1_24 sn sx M q T D r B V L F R S P oo e) (hg : ∀ (l2 : Int64) (x4 : Int32) (w : RwT), gg l2 x4 w = some e → am_ev 4 k_Mover_fill (24, [.ref 123, .ref 132, .long l2, am_ju, .int x4, am_ju], [], (zl sn sx, xa xm T D r B (xb V L F (va_up R ((1 : Int32)).toNatClampNeg w) S P), M, q)) oo) (hM : j_Mover_fill_77 fu gg w B l2 x4 s1 t2 s3 = some e) : am_ev 4 k_Mover_fill (77, [.ref 123, .ref 132, .long l2, am_ju, .int x4, am_ju], [.int s3, .long t2, .int s1, .ref 132], (zl sn sx, xa xm T D r B (xb V L F (va_up R ((1 : Int32)).toNatClampNeg w) S P), M, q)) oo := by
  unfold j_Mover_fill_77 at hM
  obtain ⟨rr, hc, hM⟩ := am_bind hM
  obtain ⟨wg3, rfl⟩ : ∃ z, z = rr := ⟨_, rfl⟩
  refine am_ev.call rfl rfl rfl ((s_MoveRow_addAll_R1 hc).mono (by decide)) ?_
  show am_ev _ k_Mover_fill (80, [.ref 123, .ref 132, .long l2, am_ju, .int x4, am_ju], [], (zl sn sx, xa xm T D r B (xb V L F (va_up R ((1 : Int32)).toNatClampNeg wg3) S P), M, q)) oo
  refine am_ev.kg 2 (pc' := 24) (lv' := [.ref 123, .ref 132, .long l2, am_ju, .int (x4 + (1 : Int32)), am_ju]) (st' := []) (h' := (zl sn sx, xa xm T D r B (xb V L F (va_up R ((1 : Int32)).toNatClampNeg wg3) S P), M, q)) (fun _ _ => rfl) ?_
  exact hg _ _ _ hM
theorem sb_Mover_fill_R1_24 {fu : Nat} {sn : Nat} {sx : Nat → Int32} {M : List am_C} {q : Nat × Nat} {T : TxT} {D : BdT} {r : RdT} {B : BdT} {V : MvT} {L : RwT} {F : RwT} {R : Nat → RwT} {S : SoT} {P : HeT} {oo : am_O} {e : RwT} {gg : Int64 → Int32 → RwT → Option (RwT)} (hx : x_Mover_fill_R1_24 sn sx M q T D r B V L F R S P oo e) (hg : ∀ (l2 : Int64) (x4 : Int32) (w : RwT), gg l2 x4 w = some e → am_ev 4 k_Mover_fill (24, [.ref 123, .ref 132, .long l2, am_ju, .int x4, am_ju], [], (zl sn sx, xa xm T D r B (xb V L F (va_up R ((1 : Int32)).toNatClampNeg w) S P), M, q)) oo) {l2 : Int64} {x4 : Int32} {w : RwT} (hM : b_Mover_fill_24 fu B gg l2 x4 w = some e) : am_ev 4 k_Mover_fill (24, [.ref 123, .ref 132, .long l2, am_ju, .int x4, am_ju], [], (zl sn sx, xa xm T D r B (xb V L F (va_up R ((1 : Int32)).toNatClampNeg w) S P), M, q)) oo := by
  unfold b_Mover_fill_24 at hM
  rcases am_if hM with ⟨c1, hM⟩ | ⟨c1, hM⟩
  · refine am_ev.kt 3 86 31 [.ref 123, .ref 132, .long l2, am_ju, .int x4, am_ju] [] (zl sn sx, xa xm T D r B (xb V L F (va_up R ((1 : Int32)).toNatClampNeg w) S P), M, q) c1 (fun _ _ => rfl) ?_
    cases hM
    cases hx
    exact am_ev.kf 1 (fun _ _ => rfl)
  · refine am_ev.ke 3 86 31 [.ref 123, .ref 132, .long l2, am_ju, .int x4, am_ju] [] (zl sn sx, xa xm T D r B (xb V L F (va_up R ((1 : Int32)).toNatClampNeg w) S P), M, q) c1 (fun _ _ => rfl) ?_
    rcases am_if hM with ⟨c2, hM⟩ | ⟨c2, hM⟩
    · refine am_ev.kt 4 86 37 [.ref 123, .ref 132, .long l2, am_ju, .int x4, am_ju] [] (zl sn sx, xa xm T D r B (xb V L F (va_up R ((1 : Int32)).toNatClampNeg w) S P), M, q) c2 (fun _ _ => rfl) ?_
      cases hM
      cases hx
      exact am_ev.kf 1 (fun _ _ => rfl)
    · refine am_ev.ke 4 86 37 [.ref 123, .ref 132, .long l2, am_ju, .int x4, am_ju] [] (zl sn sx, xa xm T D r B (xb V L F (va_up R ((1 : Int32)).toNatClampNeg w) S P), M, q) c2 (fun _ _ => rfl) ?_
      obtain ⟨rr, hc, hM⟩ := am_bind hM
      obtain ⟨r1, rfl⟩ : ∃ z, z = rr := ⟨_, rfl⟩
      refine am_ev.kg 1 (pc' := 38) (lv' := [.ref 123, .ref 132, .long l2, am_ju, .int x4, am_ju]) (st' := [.long l2]) (h' := (zl sn sx, xa xm T D r B (xb V L F (va_up R ((1 : Int32)).toNatClampNeg w) S P), M, q)) (fun _ _ => rfl) ?_
      refine am_ev.call rfl rfl rfl ((s_Mover_lowest hc).mono (by decide)) ?_
      show am_ev _ k_Mover_fill (41, [.ref 123, .ref 132, .long l2, am_ju, .int x4, am_ju], [.int r1], (zl sn sx, xa xm T D r B (xb V L F (va_up R ((1 : Int32)).toNatClampNeg w) S P), M, q)) oo
      obtain ⟨rr, hc, hM⟩ := am_bind hM
      obtain ⟨r2, rfl⟩ : ∃ z, z = rr := ⟨_, rfl⟩
      refine am_ev.kg 11 (pc' := 55) (lv' := [.ref 123, .ref 132, .long (l2 &&& (l2 - (1 : Int64))), am_ju, .int x4, .int r1]) (st' := [.int r1, .ref 123, .int r1, .ref 132]) (h' := (zl sn sx, xa xm T D r B (xb V L F (va_up R ((1 : Int32)).toNatClampNeg w) S P), M, q)) (fun _ _ => rfl) ?_
      refine am_ev.call rfl rfl rfl ((s_Mover_targets hc).mono (by decide)) ?_
      show am_ev _ k_Mover_fill (58, [.ref 123, .ref 132, .long (l2 &&& (l2 - (1 : Int64))), am_ju, .int x4, .int r1], [.long r2, .int r1, .ref 132], (zl sn sx, xa xm T D r B (xb V L F (va_up R ((1 : Int32)).toNatClampNeg w) S P), M, q)) oo
      obtain ⟨c3, hM⟩ := am_ifn hM
      refine am_ev.kc 4 65 [.ref 123, .ref 132, .long (l2 &&& (l2 - (1 : Int64))), am_ju, .int x4, .int r1] [.int ((bd_men B) (r1).toNatClampNeg), .long r2, .int r1, .ref 132] (zl sn sx, xa xm T D r B (xb V L F (va_up R ((1 : Int32)).toNatClampNeg w) S P), M, q) c3 (fun _ _ => rfl) ?_
      rcases am_if hM with ⟨c4, hM⟩ | ⟨c4, hM⟩
      · refine am_ev.kt 4 76 72 [.ref 123, .ref 132, .long (l2 &&& (l2 - (1 : Int64))), am_ju, .int x4, .int r1] [.long r2, .int r1, .ref 132] (zl sn sx, xa xm T D r B (xb V L F (va_up R ((1 : Int32)).toNatClampNeg w) S P), M, q) c4 (fun _ _ => rfl) ?_
        refine am_ev.kg 1 (pc' := 77) (lv' := [.ref 123, .ref 132, .long (l2 &&& (l2 - (1 : Int64))), am_ju, .int x4, .int r1]) (st' := [.int (0 : Int32), .long r2, .int r1, .ref 132]) (h' := (zl sn sx, xa xm T D r B (xb V L F (va_up R ((1 : Int32)).toNatClampNeg w) S P), M, q)) (fun _ _ => rfl) ?_
        refine am_ev.wk (lv' := [.ref 123, .ref 132, .long (l2 &&& (l2 - (1 : Int64))), am_ju, .int x4, am_ju]) (am_lc (Or.inr rfl) (am_lc (Or.inr rfl) (am_lc (Or.inr rfl) (am_lc (Or.inr rfl) (am_lc (Or.inr rfl) (am_lc (Or.inl rfl) am_ln)))))) ?_
        exact sj_Mover_fill_R1_77 hx hg hM
      · refine am_ev.ke 4 76 72 [.ref 123, .ref 132, .long (l2 &&& (l2 - (1 : Int64))), am_ju, .int x4, .int r1] [.long r2, .int r1, .ref 132] (zl sn sx, xa xm T D r B (xb V L F (va_up R ((1 : Int32)).toNatClampNeg w) S P), M, q) c4 (fun _ _ => rfl) ?_
        refine am_ev.kg 2 (pc' := 77) (lv' := [.ref 123, .ref 132, .long (l2 &&& (l2 - (1 : Int64))), am_ju, .int x4, .int r1]) (st' := [.int (1 : Int32), .long r2, .int r1, .ref 132]) (h' := (zl sn sx, xa xm T D r B (xb V L F (va_up R ((1 : Int32)).toNatClampNeg w) S P), M, q)) (fun _ _ => rfl) ?_
        refine am_ev.wk (lv' := [.ref 123, .ref 132, .long (l2 &&& (l2 - (1 : Int64))), am_ju, .int x4, am_ju]) (am_lc (Or.inr rfl) (am_lc (Or.inr rfl) (am_lc (Or.inr rfl) (am_lc (Or.inr rfl) (am_lc (Or.inr rfl) (am_lc (Or.inl rfl) am_ln)))))) ?_
        exact sj_Mover_fill_R1_77 hx hg hM
theorem sl_Mover_fill_R1_24 {fu : Nat} {sn : Nat} {sx : Nat → Int32} {M : List am_C} {q : Nat × Nat} {T : TxT} {D : BdT} {r : RdT} {B : BdT} {V : MvT} {L : RwT} {F : RwT} {R : Nat → RwT} {S : SoT} {P : HeT} {oo : am_O} {e : RwT} (hx : x_Mover_fill_R1_24 sn sx M q T D r B V L F R S P oo e) : ∀ (n : Nat) (l2 : Int64) (x4 : Int32) (w : RwT), l_Mover_fill_24 fu B n l2 x4 w = some e → am_ev 4 k_Mover_fill (24, [.ref 123, .ref 132, .long l2, am_ju, .int x4, am_ju], [], (zl sn sx, xa xm T D r B (xb V L F (va_up R ((1 : Int32)).toNatClampNeg w) S P), M, q)) oo
  | 0, _, _, _, hM => by have h : (none : Option (RwT)) = some e := hM; cases h
  | n + 1, _, _, _, hM => sb_Mover_fill_R1_24 hx (fun _ _ _ hM => sl_Mover_fill_R1_24 hx n _ _ _ hM) hM
theorem se_Mover_fill_R1 {fu : Nat} {sn : Nat} {sx : Nat → Int32} {M : List am_C} {q : Nat × Nat} {T : TxT} {D : BdT} {r : RdT} {B : BdT} {V : MvT} {L : RwT} {F : RwT} {R : Nat → RwT} {S : SoT} {P : HeT} {w : RwT} {oo : am_O} {e : RwT} (hx : y_Mover_fill_R1 sn sx M q T D r B V L F R S P oo e) (hM : f_Mover_fill fu w B = some e) : am_ev 4 k_Mover_fill (0, [.ref 123, .ref 132, am_ju, am_ju, am_ju, am_ju], [], (zl sn sx, xa xm T D r B (xb V L F (va_up R ((1 : Int32)).toNatClampNeg w) S P), M, q)) oo := by
  unfold f_Mover_fill at hM
  obtain ⟨c5, hM⟩ := am_ifn hM
  refine am_ev.kc 10 20 [.ref 123, .ref 132, am_ju, am_ju, am_ju, am_ju] [.long ((bd_held B) ((bd_side B)).toNatClampNeg)] (zl sn sx, xa xm T D r B (xb V L F (va_up R ((1 : Int32)).toNatClampNeg ((rw_told w), (0 : Int32))) S P), M, q) c5 (fun _ _ => rfl) ?_
  refine am_ev.kg 3 (pc' := 24) (lv' := [.ref 123, .ref 132, .long ((bd_held B) ((bd_side B)).toNatClampNeg), am_ju, .int (0 : Int32), am_ju]) (st' := []) (h' := (zl sn sx, xa xm T D r B (xb V L F (va_up R ((1 : Int32)).toNatClampNeg ((rw_told w), (0 : Int32))) S P), M, q)) (fun _ _ => rfl) ?_
  refine sl_Mover_fill_R1_24 ?_ _ _ _ _ hM
  exact hx
theorem s_Mover_fill_R1 {fu : Nat} {sn : Nat} {sx : Nat → Int32} {M : List am_C} {q : Nat × Nat} {T : TxT} {D : BdT} {r : RdT} {B : BdT} {V : MvT} {L : RwT} {F : RwT} {R : Nat → RwT} {S : SoT} {P : HeT} {w : RwT} {ow : RwT} (hM : f_Mover_fill fu w B = some ow) : am_cv 5 k_Mover_fill [.ref 123, .ref 132] (zl sn sx, xa xm T D r B (xb V L F (va_up R ((1 : Int32)).toNatClampNeg w) S P), M, q) (.inl none, (zl sn sx, xa xm T D r B (xb V L F (va_up R ((1 : Int32)).toNatClampNeg ow) S P), M, q)) := am_cv.of rfl (se_Mover_fill_R1 (e := ow) (show y_Mover_fill_R1 sn sx M q T D r B V L F R S P _ ow from rfl) hM)
theorem s_Mover_fill_R1x {fu : Nat} {sn : Nat} {sx : Nat → Int32} {M : List am_C} {q : Nat × Nat} {T : TxT} {D : BdT} {r : RdT} {B : BdT} {V : MvT} {L : RwT} {F : RwT} {R : Nat → RwT} {S : SoT} {P : HeT} {ow : RwT} (hM : f_Mover_fill fu (R ((1 : Int32)).toNatClampNeg) B = some ow) : am_cv 5 k_Mover_fill [.ref 123, .ref 132] (zl sn sx, xa xm T D r B (xb V L F R S P), M, q) (.inl none, (zl sn sx, xa xm T D r B (xb V L F (va_up R ((1 : Int32)).toNatClampNeg ow) S P), M, q)) := by
  have h := s_Mover_fill_R1 (sn := sn) (sx := sx) (M := M) (q := q) (R := R) (w := R ((1 : Int32)).toNatClampNeg) (T := T) (D := D) (r := r) (B := B) (V := V) (L := L) (F := F) (S := S) (P := P) hM
  rw [am_ups] at h
  exact h
def y_Mover_fillChecks_R1 (sn : Nat) (sx : Nat → Int32) (M : List am_C) (q : Nat × Nat) (T : TxT) (D : BdT) (r : RdT) (B : BdT) (L : RwT) (F : RwT) (R : Nat → RwT) (S : SoT) (P : HeT) (oo : am_O) : RwT × MvT → Prop
  | (ow, oV) => oo = (.inl none, (zl sn sx, xa xm T D r B (xb oV L F (va_up R ((1 : Int32)).toNatClampNeg ow) S P), M, q))
def x_Mover_fillChecks_R1_28 (sn : Nat) (sx : Nat → Int32) (M : List am_C) (q : Nat × Nat) (T : TxT) (D : BdT) (r : RdT) (B : BdT) (V : MvT) (L : RwT) (F : RwT) (R : Nat → RwT) (S : SoT) (P : HeT) (oo : am_O) : RwT × MvT → Prop
  | (ow, oV) => oo = (.inl none, (zl sn sx, xa xm T D r B (xb oV L F (va_up R ((1 : Int32)).toNatClampNeg ow) S P), M, q))
theorem sj_Mover_fillChecks_R1_117 {fu : Nat} {sn : Nat} {sx : Nat → Int32} {M : List am_C} {q : Nat × Nat} {T : TxT} {D : BdT} {r : RdT} {B : BdT} {V : MvT} {L : RwT} {F : RwT} {R : Nat → RwT} {S : SoT} {P : HeT} {w : RwT} {l2 : Int64} {x4 : Int32} {s1 : Int32} {t2 : Int64} {s3 : Int32} {oo : am_O} {e : RwT × MvT} {gg : Int64 → Int32 → RwT → Option (RwT × MvT)} (hx : x_Mover_fillChecks_R1_28 sn sx M q T D r B V L F R S P oo e) (hg : ∀ (l2 : Int64) (x4 : Int32) (w : RwT), gg l2 x4 w = some e → am_ev 4 k_Mover_fillChecks (28, [.ref 123, .ref 132, .long l2, am_ju, .int x4, am_ju, am_ju, am_ju, am_ju], [], (zl sn sx, xa xm T D r B (xb V L F (va_up R ((1 : Int32)).toNatClampNeg w) S P), M, q)) oo) (hM : j_Mover_fillChecks_117 fu gg w B V l2 x4 s1 t2 s3 = some e) : am_ev 4 k_Mover_fillChecks (117, [.ref 123, .ref 132, .long l2, am_ju, .int x4, am_ju, am_ju, am_ju, am_ju], [.int s3, .long t2, .int s1, .ref 132], (zl sn sx, xa xm T D r B (xb V L F (va_up R ((1 : Int32)).toNatClampNeg w) S P), M, q)) oo := by
  unfold j_Mover_fillChecks_117 at hM
  obtain ⟨rr, hc, hM⟩ := am_bind hM
  obtain ⟨wg4, rfl⟩ : ∃ z, z = rr := ⟨_, rfl⟩
  refine am_ev.call rfl rfl rfl ((s_MoveRow_addAll_R1 hc).mono (by decide)) ?_
  show am_ev _ k_Mover_fillChecks (120, [.ref 123, .ref 132, .long l2, am_ju, .int x4, am_ju, am_ju, am_ju, am_ju], [], (zl sn sx, xa xm T D r B (xb V L F (va_up R ((1 : Int32)).toNatClampNeg wg4) S P), M, q)) oo
  refine am_ev.kg 2 (pc' := 28) (lv' := [.ref 123, .ref 132, .long l2, am_ju, .int (x4 + (1 : Int32)), am_ju, am_ju, am_ju, am_ju]) (st' := []) (h' := (zl sn sx, xa xm T D r B (xb V L F (va_up R ((1 : Int32)).toNatClampNeg wg4) S P), M, q)) (fun _ _ => rfl) ?_
  exact hg _ _ _ hM
theorem sj_Mover_fillChecks_R1_92 {fu : Nat} {sn : Nat} {sx : Nat → Int32} {M : List am_C} {q : Nat × Nat} {T : TxT} {D : BdT} {r : RdT} {B : BdT} {V : MvT} {L : RwT} {F : RwT} {R : Nat → RwT} {S : SoT} {P : HeT} {w : RwT} {l2 : Int64} {x4 : Int32} {x5 : Int32} {x6 : Int32} {t0 : Int64} {oo : am_O} {e : RwT × MvT} {gg : Int64 → Int32 → RwT → Option (RwT × MvT)} (hx : x_Mover_fillChecks_R1_28 sn sx M q T D r B V L F R S P oo e) (hg : ∀ (l2 : Int64) (x4 : Int32) (w : RwT), gg l2 x4 w = some e → am_ev 4 k_Mover_fillChecks (28, [.ref 123, .ref 132, .long l2, am_ju, .int x4, am_ju, am_ju, am_ju, am_ju], [], (zl sn sx, xa xm T D r B (xb V L F (va_up R ((1 : Int32)).toNatClampNeg w) S P), M, q)) oo) (hM : j_Mover_fillChecks_92 fu gg w B V l2 x4 x5 x6 t0 = some e) : am_ev 4 k_Mover_fillChecks (92, [.ref 123, .ref 132, .long l2, am_ju, .int x4, .int x5, .int x6, am_ju, am_ju], [.long t0], (zl sn sx, xa xm T D r B (xb V L F (va_up R ((1 : Int32)).toNatClampNeg w) S P), M, q)) oo := by
  unfold j_Mover_fillChecks_92 at hM
  obtain ⟨rr, hc, hM⟩ := am_bind hM
  obtain ⟨r3, rfl⟩ : ∃ z, z = rr := ⟨_, rfl⟩
  refine am_ev.kg 5 (pc' := 100) (lv' := [.ref 123, .ref 132, .long l2, am_ju, .int x4, .int x5, .int x6, .long t0, am_ju]) (st' := [.int x5, .ref 123, .int x5, .ref 132]) (h' := (zl sn sx, xa xm T D r B (xb V L F (va_up R ((1 : Int32)).toNatClampNeg w) S P), M, q)) (fun _ _ => rfl) ?_
  refine am_ev.call rfl rfl rfl ((s_Mover_targets hc).mono (by decide)) ?_
  show am_ev _ k_Mover_fillChecks (103, [.ref 123, .ref 132, .long l2, am_ju, .int x4, .int x5, .int x6, .long t0, am_ju], [.long r3, .int x5, .ref 132], (zl sn sx, xa xm T D r B (xb V L F (va_up R ((1 : Int32)).toNatClampNeg w) S P), M, q)) oo
  rcases am_if hM with ⟨c1, hM⟩ | ⟨c1, hM⟩
  · refine am_ev.kt 5 116 112 [.ref 123, .ref 132, .long l2, am_ju, .int x4, .int x5, .int x6, .long t0, am_ju] [.long (r3 &&& t0), .int x5, .ref 132] (zl sn sx, xa xm T D r B (xb V L F (va_up R ((1 : Int32)).toNatClampNeg w) S P), M, q) c1 (fun _ _ => rfl) ?_
    refine am_ev.kg 1 (pc' := 117) (lv' := [.ref 123, .ref 132, .long l2, am_ju, .int x4, .int x5, .int x6, .long t0, am_ju]) (st' := [.int (0 : Int32), .long (r3 &&& t0), .int x5, .ref 132]) (h' := (zl sn sx, xa xm T D r B (xb V L F (va_up R ((1 : Int32)).toNatClampNeg w) S P), M, q)) (fun _ _ => rfl) ?_
    refine am_ev.wk (lv' := [.ref 123, .ref 132, .long l2, am_ju, .int x4, am_ju, am_ju, am_ju, am_ju]) (am_lc (Or.inr rfl) (am_lc (Or.inr rfl) (am_lc (Or.inr rfl) (am_lc (Or.inr rfl) (am_lc (Or.inr rfl) (am_lc (Or.inl rfl) (am_lc (Or.inl rfl) (am_lc (Or.inl rfl) (am_lc (Or.inr rfl) am_ln))))))))) ?_
    exact sj_Mover_fillChecks_R1_117 hx hg hM
  · refine am_ev.ke 5 116 112 [.ref 123, .ref 132, .long l2, am_ju, .int x4, .int x5, .int x6, .long t0, am_ju] [.long (r3 &&& t0), .int x5, .ref 132] (zl sn sx, xa xm T D r B (xb V L F (va_up R ((1 : Int32)).toNatClampNeg w) S P), M, q) c1 (fun _ _ => rfl) ?_
    refine am_ev.kg 2 (pc' := 117) (lv' := [.ref 123, .ref 132, .long l2, am_ju, .int x4, .int x5, .int x6, .long t0, am_ju]) (st' := [.int (1 : Int32), .long (r3 &&& t0), .int x5, .ref 132]) (h' := (zl sn sx, xa xm T D r B (xb V L F (va_up R ((1 : Int32)).toNatClampNeg w) S P), M, q)) (fun _ _ => rfl) ?_
    refine am_ev.wk (lv' := [.ref 123, .ref 132, .long l2, am_ju, .int x4, am_ju, am_ju, am_ju, am_ju]) (am_lc (Or.inr rfl) (am_lc (Or.inr rfl) (am_lc (Or.inr rfl) (am_lc (Or.inr rfl) (am_lc (Or.inr rfl) (am_lc (Or.inl rfl) (am_lc (Or.inl rfl) (am_lc (Or.inl rfl) (am_lc (Or.inr rfl) am_ln))))))))) ?_
    exact sj_Mover_fillChecks_R1_117 hx hg hM
theorem sb_Mover_fillChecks_R1_28 {fu : Nat} {sn : Nat} {sx : Nat → Int32} {M : List am_C} {q : Nat × Nat} {T : TxT} {D : BdT} {r : RdT} {B : BdT} {V : MvT} {L : RwT} {F : RwT} {R : Nat → RwT} {S : SoT} {P : HeT} {oo : am_O} {e : RwT × MvT} {gg : Int64 → Int32 → RwT → Option (RwT × MvT)} (hx : x_Mover_fillChecks_R1_28 sn sx M q T D r B V L F R S P oo e) (hg : ∀ (l2 : Int64) (x4 : Int32) (w : RwT), gg l2 x4 w = some e → am_ev 4 k_Mover_fillChecks (28, [.ref 123, .ref 132, .long l2, am_ju, .int x4, am_ju, am_ju, am_ju, am_ju], [], (zl sn sx, xa xm T D r B (xb V L F (va_up R ((1 : Int32)).toNatClampNeg w) S P), M, q)) oo) {l2 : Int64} {x4 : Int32} {w : RwT} (hM : b_Mover_fillChecks_28 fu B V gg l2 x4 w = some e) : am_ev 4 k_Mover_fillChecks (28, [.ref 123, .ref 132, .long l2, am_ju, .int x4, am_ju, am_ju, am_ju, am_ju], [], (zl sn sx, xa xm T D r B (xb V L F (va_up R ((1 : Int32)).toNatClampNeg w) S P), M, q)) oo := by
  unfold b_Mover_fillChecks_28 at hM
  rcases am_if hM with ⟨c2, hM⟩ | ⟨c2, hM⟩
  · refine am_ev.kt 3 126 35 [.ref 123, .ref 132, .long l2, am_ju, .int x4, am_ju, am_ju, am_ju, am_ju] [] (zl sn sx, xa xm T D r B (xb V L F (va_up R ((1 : Int32)).toNatClampNeg w) S P), M, q) c2 (fun _ _ => rfl) ?_
    cases hM
    cases hx
    exact am_ev.kf 1 (fun _ _ => rfl)
  · refine am_ev.ke 3 126 35 [.ref 123, .ref 132, .long l2, am_ju, .int x4, am_ju, am_ju, am_ju, am_ju] [] (zl sn sx, xa xm T D r B (xb V L F (va_up R ((1 : Int32)).toNatClampNeg w) S P), M, q) c2 (fun _ _ => rfl) ?_
    rcases am_if hM with ⟨c3, hM⟩ | ⟨c3, hM⟩
    · refine am_ev.kt 4 126 41 [.ref 123, .ref 132, .long l2, am_ju, .int x4, am_ju, am_ju, am_ju, am_ju] [] (zl sn sx, xa xm T D r B (xb V L F (va_up R ((1 : Int32)).toNatClampNeg w) S P), M, q) c3 (fun _ _ => rfl) ?_
      cases hM
      cases hx
      exact am_ev.kf 1 (fun _ _ => rfl)
    · refine am_ev.ke 4 126 41 [.ref 123, .ref 132, .long l2, am_ju, .int x4, am_ju, am_ju, am_ju, am_ju] [] (zl sn sx, xa xm T D r B (xb V L F (va_up R ((1 : Int32)).toNatClampNeg w) S P), M, q) c3 (fun _ _ => rfl) ?_
      obtain ⟨rr, hc, hM⟩ := am_bind hM
      obtain ⟨r2, rfl⟩ : ∃ z, z = rr := ⟨_, rfl⟩
      refine am_ev.kg 1 (pc' := 42) (lv' := [.ref 123, .ref 132, .long l2, am_ju, .int x4, am_ju, am_ju, am_ju, am_ju]) (st' := [.long l2]) (h' := (zl sn sx, xa xm T D r B (xb V L F (va_up R ((1 : Int32)).toNatClampNeg w) S P), M, q)) (fun _ _ => rfl) ?_
      refine am_ev.call rfl rfl rfl ((s_Mover_lowest hc).mono (by decide)) ?_
      show am_ev _ k_Mover_fillChecks (45, [.ref 123, .ref 132, .long l2, am_ju, .int x4, am_ju, am_ju, am_ju, am_ju], [.int r2], (zl sn sx, xa xm T D r B (xb V L F (va_up R ((1 : Int32)).toNatClampNeg w) S P), M, q)) oo
      obtain ⟨c4, hM⟩ := am_ifn hM
      refine am_ev.kc 11 60 [.ref 123, .ref 132, .long (l2 &&& (l2 - (1 : Int64))), am_ju, .int x4, .int r2, am_ju, am_ju, am_ju] [.int ((bd_men B) (r2).toNatClampNeg)] (zl sn sx, xa xm T D r B (xb V L F (va_up R ((1 : Int32)).toNatClampNeg w) S P), M, q) c4 (fun _ _ => rfl) ?_
      rcases am_if hM with ⟨c5, hM⟩ | ⟨c5, hM⟩
      · refine am_ev.kt 12 85 79 [.ref 123, .ref 132, .long (l2 &&& (l2 - (1 : Int64))), am_ju, .int x4, .int r2, .int (((bd_men B) (r2).toNatClampNeg) &&& (7 : Int32)), am_ju, am_ju] [] (zl sn sx, xa xm T D r B (xb V L F (va_up R ((1 : Int32)).toNatClampNeg w) S P), M, q) c5 (fun _ _ => rfl) ?_
        obtain ⟨c6, hM⟩ := am_ifn hM
        refine am_ev.kc 4 92 [.ref 123, .ref 132, .long (l2 &&& (l2 - (1 : Int64))), am_ju, .int x4, .int r2, .int (((bd_men B) (r2).toNatClampNeg) &&& (7 : Int32)), am_ju, am_ju] [.long ((mv_aims V) ((((bd_men B) (r2).toNatClampNeg) &&& (7 : Int32))).toNatClampNeg)] (zl sn sx, xa xm T D r B (xb V L F (va_up R ((1 : Int32)).toNatClampNeg w) S P), M, q) c6 (fun _ _ => rfl) ?_
        exact sj_Mover_fillChecks_R1_92 hx hg hM
      · refine am_ev.ke 12 85 79 [.ref 123, .ref 132, .long (l2 &&& (l2 - (1 : Int64))), am_ju, .int x4, .int r2, .int (((bd_men B) (r2).toNatClampNeg) &&& (7 : Int32)), am_ju, am_ju] [] (zl sn sx, xa xm T D r B (xb V L F (va_up R ((1 : Int32)).toNatClampNeg w) S P), M, q) c5 (fun _ _ => rfl) ?_
        refine am_ev.kg 2 (pc' := 92) (lv' := [.ref 123, .ref 132, .long (l2 &&& (l2 - (1 : Int64))), am_ju, .int x4, .int r2, .int (((bd_men B) (r2).toNatClampNeg) &&& (7 : Int32)), am_ju, am_ju]) (st' := [.long (-1 : Int64)]) (h' := (zl sn sx, xa xm T D r B (xb V L F (va_up R ((1 : Int32)).toNatClampNeg w) S P), M, q)) (fun _ _ => rfl) ?_
        exact sj_Mover_fillChecks_R1_92 hx hg hM
theorem sl_Mover_fillChecks_R1_28 {fu : Nat} {sn : Nat} {sx : Nat → Int32} {M : List am_C} {q : Nat × Nat} {T : TxT} {D : BdT} {r : RdT} {B : BdT} {V : MvT} {L : RwT} {F : RwT} {R : Nat → RwT} {S : SoT} {P : HeT} {oo : am_O} {e : RwT × MvT} (hx : x_Mover_fillChecks_R1_28 sn sx M q T D r B V L F R S P oo e) : ∀ (n : Nat) (l2 : Int64) (x4 : Int32) (w : RwT), l_Mover_fillChecks_28 fu B V n l2 x4 w = some e → am_ev 4 k_Mover_fillChecks (28, [.ref 123, .ref 132, .long l2, am_ju, .int x4, am_ju, am_ju, am_ju, am_ju], [], (zl sn sx, xa xm T D r B (xb V L F (va_up R ((1 : Int32)).toNatClampNeg w) S P), M, q)) oo
  | 0, _, _, _, hM => by have h : (none : Option (RwT × MvT)) = some e := hM; cases h
  | n + 1, _, _, _, hM => sb_Mover_fillChecks_R1_28 hx (fun _ _ _ hM => sl_Mover_fillChecks_R1_28 hx n _ _ _ hM) hM
theorem se_Mover_fillChecks_R1 {fu : Nat} {sn : Nat} {sx : Nat → Int32} {M : List am_C} {q : Nat × Nat} {T : TxT} {D : BdT} {r : RdT} {B : BdT} {V : MvT} {L : RwT} {F : RwT} {R : Nat → RwT} {S : SoT} {P : HeT} {w : RwT} {oo : am_O} {e : RwT × MvT} (hx : y_Mover_fillChecks_R1 sn sx M q T D r B L F R S P oo e) (hM : f_Mover_fillChecks fu w B V = some e) : am_ev 4 k_Mover_fillChecks (0, [.ref 123, .ref 132, am_ju, am_ju, am_ju, am_ju, am_ju, am_ju, am_ju], [], (zl sn sx, xa xm T D r B (xb V L F (va_up R ((1 : Int32)).toNatClampNeg w) S P), M, q)) oo := by
  unfold f_Mover_fillChecks at hM
  obtain ⟨rr, hc, hM⟩ := am_bind hM
  obtain ⟨vg1, rfl⟩ : ∃ z, z = rr := ⟨_, rfl⟩
  refine am_ev.kg 1 (pc' := 1) (lv' := [.ref 123, .ref 132, am_ju, am_ju, am_ju, am_ju, am_ju, am_ju, am_ju]) (st' := [.ref 123]) (h' := (zl sn sx, xa xm T D r B (xb V L F (va_up R ((1 : Int32)).toNatClampNeg w) S P), M, q)) (fun _ _ => rfl) ?_
  refine am_ev.call rfl rfl rfl ((s_Mover_takeAim hc).mono (by decide)) ?_
  show am_ev _ k_Mover_fillChecks (4, [.ref 123, .ref 132, am_ju, am_ju, am_ju, am_ju, am_ju, am_ju, am_ju], [], (zl sn sx, xa xm T D r B (xb vg1 L F (va_up R ((1 : Int32)).toNatClampNeg w) S P), M, q)) oo
  obtain ⟨c7, hM⟩ := am_ifn hM
  refine am_ev.kc 10 24 [.ref 123, .ref 132, am_ju, am_ju, am_ju, am_ju, am_ju, am_ju, am_ju] [.long ((bd_held B) ((bd_side B)).toNatClampNeg)] (zl sn sx, xa xm T D r B (xb vg1 L F (va_up R ((1 : Int32)).toNatClampNeg ((rw_told w), (0 : Int32))) S P), M, q) c7 (fun _ _ => rfl) ?_
  refine am_ev.kg 3 (pc' := 28) (lv' := [.ref 123, .ref 132, .long ((bd_held B) ((bd_side B)).toNatClampNeg), am_ju, .int (0 : Int32), am_ju, am_ju, am_ju, am_ju]) (st' := []) (h' := (zl sn sx, xa xm T D r B (xb vg1 L F (va_up R ((1 : Int32)).toNatClampNeg ((rw_told w), (0 : Int32))) S P), M, q)) (fun _ _ => rfl) ?_
  obtain ⟨ow, oV⟩ := e
  refine sl_Mover_fillChecks_R1_28 ?_ _ _ _ _ hM
  exact hx
theorem s_Mover_fillChecks_R1 {fu : Nat} {sn : Nat} {sx : Nat → Int32} {M : List am_C} {q : Nat × Nat} {T : TxT} {D : BdT} {r : RdT} {B : BdT} {V : MvT} {L : RwT} {F : RwT} {R : Nat → RwT} {S : SoT} {P : HeT} {w : RwT} {ow : RwT} {oV : MvT} (hM : f_Mover_fillChecks fu w B V = some (ow, oV)) : am_cv 5 k_Mover_fillChecks [.ref 123, .ref 132] (zl sn sx, xa xm T D r B (xb V L F (va_up R ((1 : Int32)).toNatClampNeg w) S P), M, q) (.inl none, (zl sn sx, xa xm T D r B (xb oV L F (va_up R ((1 : Int32)).toNatClampNeg ow) S P), M, q)) := am_cv.of rfl (se_Mover_fillChecks_R1 (e := (ow, oV)) (show y_Mover_fillChecks_R1 sn sx M q T D r B L F R S P _ (ow, oV) from rfl) hM)
theorem s_Mover_fillChecks_R1x {fu : Nat} {sn : Nat} {sx : Nat → Int32} {M : List am_C} {q : Nat × Nat} {T : TxT} {D : BdT} {r : RdT} {B : BdT} {V : MvT} {L : RwT} {F : RwT} {R : Nat → RwT} {S : SoT} {P : HeT} {ow : RwT} {oV : MvT} (hM : f_Mover_fillChecks fu (R ((1 : Int32)).toNatClampNeg) B V = some (ow, oV)) : am_cv 5 k_Mover_fillChecks [.ref 123, .ref 132] (zl sn sx, xa xm T D r B (xb V L F R S P), M, q) (.inl none, (zl sn sx, xa xm T D r B (xb oV L F (va_up R ((1 : Int32)).toNatClampNeg ow) S P), M, q)) := by
  have h := s_Mover_fillChecks_R1 (sn := sn) (sx := sx) (M := M) (q := q) (R := R) (w := R ((1 : Int32)).toNatClampNeg) (T := T) (D := D) (r := r) (B := B) (V := V) (L := L) (F := F) (S := S) (P := P) hM
  rw [am_ups] at h
  exact h
