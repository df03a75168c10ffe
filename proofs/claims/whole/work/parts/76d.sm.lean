def y_MoveRow_bringFirst_R5 (sn : Nat) (sx : Nat → Int32) (M : List am_C) (q : Nat × Nat) (T : TxT) (D : BdT) (r : RdT) (B : BdT) (V : MvT) (L : RwT) (F : RwT) (R : Nat → RwT) (S : SoT) (P : HeT) (oo : am_O) : RwT → Prop
  | ow => oo = (.inl none, (zl sn sx, xa xm T D r B (xb V L F (va_up R ((5 : Int32)).toNatClampNeg ow) S P), M, q))
def x_MoveRow_bringFirst_R5_2 (sn : Nat) (sx : Nat → Int32) (M : List am_C) (q : Nat × Nat) (T : TxT) (D : BdT) (r : RdT) (B : BdT) (V : MvT) (L : RwT) (F : RwT) (R : Nat → RwT) (S : SoT) (P : HeT) (w : RwT) (x1 : Int32) (oo : am_O) : ((Int32)) ⊕ (RwT) → Prop
  | (.inl x2) => am_ev 1 k_MoveRow_bringFirst (20, [.ref 140, .int x1, .int x2], [], (zl sn sx, xa xm T D r B (xb V L F (va_up R ((5 : Int32)).toNatClampNeg w) S P), M, q)) oo
  | .inr ow => oo = (.inl none, (zl sn sx, xa xm T D r B (xb V L F (va_up R ((5 : Int32)).toNatClampNeg ow) S P), M, q))
theorem sb_MoveRow_bringFirst_R5_2 {fu : Nat} {sn : Nat} {sx : Nat → Int32} {M : List am_C} {q : Nat × Nat} {T : TxT} {D : BdT} {r : RdT} {B : BdT} {V : MvT} {L : RwT} {F : RwT} {R : Nat → RwT} {S : SoT} {P : HeT} {w : RwT} {x1 : Int32} {oo : am_O} {e : ((Int32)) ⊕ (RwT)} {gg : Int32 → Option (((Int32)) ⊕ (RwT))} (hx : x_MoveRow_bringFirst_R5_2 sn sx M q T D r B V L F R S P w x1 oo e) (hg : ∀ (x2 : Int32), gg x2 = some e → am_ev 1 k_MoveRow_bringFirst (2, [.ref 140, .int x1, .int x2], [], (zl sn sx, xa xm T D r B (xb V L F (va_up R ((5 : Int32)).toNatClampNeg w) S P), M, q)) oo) {x2 : Int32} (hM : b_MoveRow_bringFirst_2 fu w x1 gg x2 = some e) : am_ev 1 k_MoveRow_bringFirst (2, [.ref 140, .int x1, .int x2], [], (zl sn sx, xa xm T D r B (xb V L F (va_up R ((5 : Int32)).toNatClampNeg w) S P), M, q)) oo := by
  unfold b_MoveRow_bringFirst_2 at hM
  rcases am_if hM with ⟨c1, hM⟩ | ⟨c1, hM⟩
  · refine am_ev.kt 4 46 10 [.ref 140, .int x1, .int x2] [] (zl sn sx, xa xm T D r B (xb V L F (va_up R ((5 : Int32)).toNatClampNeg w) S P), M, q) c1 (fun _ _ => rfl) ?_
    cases hM
    cases hx
    exact am_ev.kf 1 (fun _ _ => rfl)
  · refine am_ev.ke 4 46 10 [.ref 140, .int x1, .int x2] [] (zl sn sx, xa xm T D r B (xb V L F (va_up R ((5 : Int32)).toNatClampNeg w) S P), M, q) c1 (fun _ _ => rfl) ?_
    obtain ⟨c2, hM⟩ := am_ifn hM
    refine am_ev.kc 4 16 [.ref 140, .int x1, .int x2] [.int ((rw_told w) (x2).toNatClampNeg)] (zl sn sx, xa xm T D r B (xb V L F (va_up R ((5 : Int32)).toNatClampNeg w) S P), M, q) c2 (fun _ _ => rfl) ?_
    rcases am_if hM with ⟨c3, hM⟩ | ⟨c3, hM⟩
    · refine am_ev.kt 2 40 20 [.ref 140, .int x1, .int x2] [] (zl sn sx, xa xm T D r B (xb V L F (va_up R ((5 : Int32)).toNatClampNeg w) S P), M, q) c3 (fun _ _ => rfl) ?_
      refine am_ev.kg 2 (pc' := 2) (lv' := [.ref 140, .int x1, .int (x2 + (1 : Int32))]) (st' := []) (h' := (zl sn sx, xa xm T D r B (xb V L F (va_up R ((5 : Int32)).toNatClampNeg w) S P), M, q)) (fun _ _ => rfl) ?_
      exact hg _ hM
    · refine am_ev.ke 2 40 20 [.ref 140, .int x1, .int x2] [] (zl sn sx, xa xm T D r B (xb V L F (va_up R ((5 : Int32)).toNatClampNeg w) S P), M, q) c3 (fun _ _ => rfl) ?_
      cases hM
      exact hx
theorem sl_MoveRow_bringFirst_R5_2 {fu : Nat} {sn : Nat} {sx : Nat → Int32} {M : List am_C} {q : Nat × Nat} {T : TxT} {D : BdT} {r : RdT} {B : BdT} {V : MvT} {L : RwT} {F : RwT} {R : Nat → RwT} {S : SoT} {P : HeT} {w : RwT} {x1 : Int32} {oo : am_O} {e : ((Int32)) ⊕ (RwT)} (hx : x_MoveRow_bringFirst_R5_2 sn sx M q T D r B V L F R S P w x1 oo e) : ∀ (n : Nat) (x2 : Int32), l_MoveRow_bringFirst_2 fu w x1 n x2 = some e → am_ev 1 k_MoveRow_bringFirst (2, [.ref 140, .int x1, .int x2], [], (zl sn sx, xa xm T D r B (xb V L F (va_up R ((5 : Int32)).toNatClampNeg w) S P), M, q)) oo
  | 0, _, hM => by have h : (none : Option (((Int32)) ⊕ (RwT))) = some e := hM; cases h
  | n + 1, _, hM => sb_MoveRow_bringFirst_R5_2 hx (fun _ hM => sl_MoveRow_bringFirst_R5_2 hx n _ hM) hM
theorem sj_MoveRow_bringFirst_R5_20 {fu : Nat} {sn : Nat} {sx : Nat → Int32} {M : List am_C} {q : Nat × Nat} {T : TxT} {D : BdT} {r : RdT} {B : BdT} {V : MvT} {L : RwT} {F : RwT} {R : Nat → RwT} {S : SoT} {P : HeT} {w : RwT} {x1 : Int32} {x2 : Int32} {oo : am_O} {e : RwT} (hx : y_MoveRow_bringFirst_R5 sn sx M q T D r B V L F R S P oo e) (hM : j_MoveRow_bringFirst_20 fu w x1 x2 = some e) : am_ev 1 k_MoveRow_bringFirst (20, [.ref 140, .int x1, .int x2], [], (zl sn sx, xa xm T D r B (xb V L F (va_up R ((5 : Int32)).toNatClampNeg w) S P), M, q)) oo := by
  unfold j_MoveRow_bringFirst_20 at hM
  obtain ⟨c4, hM⟩ := am_ifn hM
  refine am_ev.kc 7 31 [.ref 140, .int x1, .int x2] [.int ((rw_told w) ((0 : Int32)).toNatClampNeg), .int x2, .ref 141] (zl sn sx, xa xm T D r B (xb V L F (va_up R ((5 : Int32)).toNatClampNeg w) S P), M, q) c4 (fun _ _ => rfl) ?_
  obtain ⟨c5, hM⟩ := am_ifn hM
  refine am_ev.kc 1 32 [.ref 140, .int x1, .int x2] [] (zl sn sx, xa xm T D r B (xb V L F (va_up R ((5 : Int32)).toNatClampNeg ((upd (rw_told w) (x2).toNatClampNeg ((rw_told w) ((0 : Int32)).toNatClampNeg)), (rw_count w))) S P), M, q) c5 (fun _ _ => rfl) ?_
  obtain ⟨c6, hM⟩ := am_ifn hM
  refine am_ev.kc 5 39 [.ref 140, .int x1, .int x2] [] (zl sn sx, xa xm T D r B (xb V L F (va_up R ((5 : Int32)).toNatClampNeg ((upd (upd (rw_told w) (x2).toNatClampNeg ((rw_told w) ((0 : Int32)).toNatClampNeg)) ((0 : Int32)).toNatClampNeg x1), (rw_count w))) S P), M, q) c6 (fun _ _ => rfl) ?_
  cases hM
  cases hx
  exact am_ev.kf 1 (fun _ _ => rfl)
theorem se_MoveRow_bringFirst_R5 {fu : Nat} {sn : Nat} {sx : Nat → Int32} {M : List am_C} {q : Nat × Nat} {T : TxT} {D : BdT} {r : RdT} {B : BdT} {V : MvT} {L : RwT} {F : RwT} {R : Nat → RwT} {S : SoT} {P : HeT} {w : RwT} {x1 : Int32} {oo : am_O} {e : RwT} (hx : y_MoveRow_bringFirst_R5 sn sx M q T D r B V L F R S P oo e) (hM : f_MoveRow_bringFirst fu x1 w = some e) : am_ev 1 k_MoveRow_bringFirst (0, [.ref 140, .int x1, am_ju], [], (zl sn sx, xa xm T D r B (xb V L F (va_up R ((5 : Int32)).toNatClampNeg w) S P), M, q)) oo := by
  unfold f_MoveRow_bringFirst at hM
  refine am_ev.kg 2 (pc' := 2) (lv' := [.ref 140, .int x1, .int (1 : Int32)]) (st' := []) (h' := (zl sn sx, xa xm T D r B (xb V L F (va_up R ((5 : Int32)).toNatClampNeg w) S P), M, q)) (fun _ _ => rfl) ?_
  obtain ⟨z, hz, hM⟩ := am_bind hM
  rcases z with z | z
  ·
    obtain ⟨x2_1, rfl⟩ : ∃ y, y = z := ⟨_, rfl⟩
    refine sl_MoveRow_bringFirst_R5_2 ?_ _ _ hz
    show am_ev 1 k_MoveRow_bringFirst (20, [.ref 140, .int x1, .int x2_1], [], (zl sn sx, xa xm T D r B (xb V L F (va_up R ((5 : Int32)).toNatClampNeg w) S P), M, q)) oo
    exact sj_MoveRow_bringFirst_R5_20 hx hM
  ·
    cases hM
    refine sl_MoveRow_bringFirst_R5_2 ?_ _ _ hz
    exact hx
theorem s_MoveRow_bringFirst_R5 {fu : Nat} {sn : Nat} {sx : Nat → Int32} {M : List am_C} {q : Nat × Nat} {T : TxT} {D : BdT} {r : RdT} {B : BdT} {V : MvT} {L : RwT} {F : RwT} {R : Nat → RwT} {S : SoT} {P : HeT} {w : RwT} {x1 : Int32} {ow : RwT} (hM : f_MoveRow_bringFirst fu x1 w = some ow) : am_cv 2 k_MoveRow_bringFirst [.ref 140, .int x1] (zl sn sx, xa xm T D r B (xb V L F (va_up R ((5 : Int32)).toNatClampNeg w) S P), M, q) (.inl none, (zl sn sx, xa xm T D r B (xb V L F (va_up R ((5 : Int32)).toNatClampNeg ow) S P), M, q)) := am_cv.of rfl (se_MoveRow_bringFirst_R5 (e := ow) (show y_MoveRow_bringFirst_R5 sn sx M q T D r B V L F R S P _ ow from rfl) hM)
theorem s_MoveRow_bringFirst_R5x {fu : Nat} {sn : Nat} {sx : Nat → Int32} {M : List am_C} {q : Nat × Nat} {T : TxT} {D : BdT} {r : RdT} {B : BdT} {V : MvT} {L : RwT} {F : RwT} {R : Nat → RwT} {S : SoT} {P : HeT} {x1 : Int32} {ow : RwT} (hM : f_MoveRow_bringFirst fu x1 (R ((5 : Int32)).toNatClampNeg) = some ow) : am_cv 2 k_MoveRow_bringFirst [.ref 140, .int x1] (zl sn sx, xa xm T D r B (xb V L F R S P), M, q) (.inl none, (zl sn sx, xa xm T D r B (xb V L F (va_up R ((5 : Int32)).toNatClampNeg ow) S P), M, q)) := by
  have h := s_MoveRow_bringFirst_R5 (sn := sn) (sx := sx) (M := M) (q := q) (R := R) (w := R ((5 : Int32)).toNatClampNeg) (T := T) (D := D) (r := r) (B := B) (V := V) (L := L) (F := F) (S := S) (P := P) hM
  rw [am_ups] at h
  exact h
def y_Solver_refutation_p5 (sn : Nat) (sx : Nat → Int32) (M : List am_C) (q : Nat × Nat) (T : TxT) (D : BdT) (r : RdT) (L : RwT) (F : RwT) (P : HeT) (oo : am_O) : Int32 × BdT × MvT × (Nat → RwT) × SoT → Prop
  | (ov, oB, oV, oR, oS) => oo = (.inl (some (.int ov)), (zl sn sx, xa xm T D r oB (xb oV L F oR oS P), M, q))
def x_Solver_refutation_p5_136 (sn : Nat) (sx : Nat → Int32) (M : List am_C) (q : Nat × Nat) (T : TxT) (D : BdT) (r : RdT) (L : RwT) (F : RwT) (P : HeT) (x1 : Int32) (l5 : Int64) (x7 : Int32) (l8 : Int64) (x10 : Int32) (oo : am_O) : (Int32 × BdT × MvT × (Nat → RwT) × SoT) ⊕ (Int32 × BdT × MvT × (Nat → RwT) × SoT) → Prop
  | (.inl (x13, B, V, R, S)) => am_ev 6 k_Solver_refutation (236, [.ref 142, am_ju, .int (5 : Int32), am_ju, am_ju, am_ju, am_ju, am_ju, am_ju, am_ju, am_ju, am_ju, am_ju, .int x13, am_ju, am_ju], [], (zl sn sx, xa xm T D r B (xb V L F R S P), M, q)) oo
  | (.inr (x4, B, V, R, S)) => am_ev 6 k_Solver_refutation (270, [.ref 142, .int x1, .int (5 : Int32), .ref 140, .int x4, .long l5, am_ju, .int x7, .long l8, am_ju, .int x10, am_ju, am_ju, am_ju, am_ju, am_ju], [], (zl sn sx, xa xm T D r B (xb V L F R S P), M, q)) oo
def x_Solver_refutation_p5_68 (sn : Nat) (sx : Nat → Int32) (M : List am_C) (q : Nat × Nat) (T : TxT) (D : BdT) (r : RdT) (L : RwT) (F : RwT) (P : HeT) (x1 : Int32) (x7 : Int32) (oo : am_O) : (Int32 × BdT × MvT × (Nat → RwT) × SoT) ⊕ (Int32 × BdT × MvT × (Nat → RwT) × SoT) → Prop
  | (.inl (x13, B, V, R, S)) => am_ev 6 k_Solver_refutation (236, [.ref 142, am_ju, .int (5 : Int32), am_ju, am_ju, am_ju, am_ju, am_ju, am_ju, am_ju, am_ju, am_ju, am_ju, .int x13, am_ju, am_ju], [], (zl sn sx, xa xm T D r B (xb V L F R S P), M, q)) oo
  | (.inr (x4, B, V, R, S)) => am_ev 6 k_Solver_refutation (276, [.ref 142, am_ju, am_ju, am_ju, .int x4, am_ju, am_ju, am_ju, am_ju, am_ju, am_ju, am_ju, am_ju, am_ju, am_ju, am_ju], [], (zl sn sx, xa xm T D r B (xb V L F R S P), M, q)) oo
theorem sj_Solver_refutation_p5_310 {fu : Nat} {dd : Nat} {sn : Nat} {sx : Nat → Int32} {M : List am_C} {q : Nat × Nat} {T : TxT} {D : BdT} {r : RdT} {B : BdT} {V : MvT} {L : RwT} {F : RwT} {R : Nat → RwT} {S : SoT} {P : HeT} {x4 : Int32} {s0 : Int32} {oo : am_O} {e : Int32 × BdT × MvT × (Nat → RwT) × SoT} (hx : y_Solver_refutation_p5 sn sx M q T D r L F P oo e) (hM : j_Solver_refutation_310 fu (g_Solver fu dd).1 (g_Solver fu dd).2 B V R S x4 s0 = some e) : am_ev 6 k_Solver_refutation (310, [am_ju, am_ju, am_ju, am_ju, .int x4, am_ju, am_ju, am_ju, am_ju, am_ju, am_ju, am_ju, am_ju, am_ju, am_ju, am_ju], [.int s0], (zl sn sx, xa xm T D r B (xb V L F R S P), M, q)) oo := by
  unfold j_Solver_refutation_310 at hM
  rcases am_if hM with ⟨c1, hM⟩ | ⟨c1, hM⟩
  · refine am_ev.kt 3 322 317 [am_ju, am_ju, am_ju, am_ju, .int x4, am_ju, am_ju, am_ju, am_ju, am_ju, .int s0, am_ju, am_ju, am_ju, am_ju, am_ju] [] (zl sn sx, xa xm T D r B (xb V L F R S P), M, q) c1 (fun _ _ => rfl) ?_
    cases hM
    cases hx
    exact am_ev.kf 3 (fun _ _ => rfl)
  · refine am_ev.ke 3 322 317 [am_ju, am_ju, am_ju, am_ju, .int x4, am_ju, am_ju, am_ju, am_ju, am_ju, .int s0, am_ju, am_ju, am_ju, am_ju, am_ju] [] (zl sn sx, xa xm T D r B (xb V L F R S P), M, q) c1 (fun _ _ => rfl) ?_
    rcases am_if hM with ⟨c2, hM⟩ | ⟨c2, hM⟩
    · refine am_ev.kt 2 326 322 [am_ju, am_ju, am_ju, am_ju, .int x4, am_ju, am_ju, am_ju, am_ju, am_ju, .int s0, am_ju, am_ju, am_ju, am_ju, am_ju] [] (zl sn sx, xa xm T D r B (xb V L F R S P), M, q) c2 (fun _ _ => rfl) ?_
      cases hM
      cases hx
      exact am_ev.kf 2 (fun _ _ => rfl)
    · refine am_ev.ke 2 326 322 [am_ju, am_ju, am_ju, am_ju, .int x4, am_ju, am_ju, am_ju, am_ju, am_ju, .int s0, am_ju, am_ju, am_ju, am_ju, am_ju] [] (zl sn sx, xa xm T D r B (xb V L F R S P), M, q) c2 (fun _ _ => rfl) ?_
      cases hM
      cases hx
      exact am_ev.kf 3 (fun _ _ => rfl)
theorem sj_Solver_refutation_p5_270 {fu : Nat} {dd : Nat} {sn : Nat} {sx : Nat → Int32} {M : List am_C} {q : Nat × Nat} {T : TxT} {D : BdT} {r : RdT} {B : BdT} {V : MvT} {L : RwT} {F : RwT} {R : Nat → RwT} {S : SoT} {P : HeT} {x1 : Int32} {x4 : Int32} {l5 : Int64} {x7 : Int32} {l8 : Int64} {x10 : Int32} {oo : am_O} {e : (Int32 × BdT × MvT × (Nat → RwT) × SoT) ⊕ (Int32 × BdT × MvT × (Nat → RwT) × SoT)} {gg : Int32 → Int64 → Int64 → Int32 → BdT → MvT → (Nat → RwT) → SoT → Option ((Int32 × BdT × MvT × (Nat → RwT) × SoT) ⊕ (Int32 × BdT × MvT × (Nat → RwT) × SoT))} (hx : x_Solver_refutation_p5_68 sn sx M q T D r L F P x1 x7 oo e) (hg : ∀ (x4 : Int32) (l5 : Int64) (l8 : Int64) (x10 : Int32) (B : BdT) (V : MvT) (R : Nat → RwT) (S : SoT), gg x4 l5 l8 x10 B V R S = some e → am_ev 6 k_Solver_refutation (68, [.ref 142, .int x1, .int (5 : Int32), .ref 140, .int x4, .long l5, am_ju, .int x7, .long l8, am_ju, .int x10, am_ju, am_ju, am_ju, am_ju, am_ju], [], (zl sn sx, xa xm T D r B (xb V L F R S P), M, q)) oo) (hM : j_Solver_refutation_270 fu (g_Solver fu dd).1 (g_Solver fu dd).2 gg B V R S x1 (5 : Int32) x4 l5 x7 l8 x10 = some e) : am_ev 6 k_Solver_refutation (270, [.ref 142, .int x1, .int (5 : Int32), .ref 140, .int x4, .long l5, am_ju, .int x7, .long l8, am_ju, .int x10, am_ju, am_ju, am_ju, am_ju, am_ju], [], (zl sn sx, xa xm T D r B (xb V L F R S P), M, q)) oo := by
  unfold j_Solver_refutation_270 at hM
  refine am_ev.kg 2 (pc' := 68) (lv' := [.ref 142, .int x1, .int (5 : Int32), .ref 140, .int x4, .long l5, am_ju, .int x7, .long l8, am_ju, .int (x10 + (1 : Int32)), am_ju, am_ju, am_ju, am_ju, am_ju]) (st' := []) (h' := (zl sn sx, xa xm T D r B (xb V L F R S P), M, q)) (fun _ _ => rfl) ?_
  exact hg _ _ _ _ _ _ _ _ hM
theorem sj_Solver_refutation_p5_236 {fu : Nat} {dd : Nat} {sn : Nat} {sx : Nat → Int32} {M : List am_C} {q : Nat × Nat} {T : TxT} {D : BdT} {r : RdT} {B : BdT} {V : MvT} {L : RwT} {F : RwT} {R : Nat → RwT} {S : SoT} {P : HeT} {x13 : Int32} {oo : am_O} {e : Int32 × BdT × MvT × (Nat → RwT) × SoT} (hx : y_Solver_refutation_p5 sn sx M q T D r L F P oo e) (hM : j_Solver_refutation_236 fu (g_Solver fu dd).1 (g_Solver fu dd).2 B V R S (5 : Int32) x13 = some e) : am_ev 6 k_Solver_refutation (236, [.ref 142, am_ju, .int (5 : Int32), am_ju, am_ju, am_ju, am_ju, am_ju, am_ju, am_ju, am_ju, am_ju, am_ju, .int x13, am_ju, am_ju], [], (zl sn sx, xa xm T D r B (xb V L F R S P), M, q)) oo := by
  unfold j_Solver_refutation_236 at hM
  obtain ⟨c3, hM⟩ := am_ifn hM
  refine am_ev.kc 5 244 [.ref 142, am_ju, .int (5 : Int32), am_ju, am_ju, am_ju, am_ju, am_ju, am_ju, am_ju, am_ju, am_ju, am_ju, .int x13, am_ju, am_ju] [] (zl sn sx, xa xm T D r B (xb V L F R ((upd (so_hints S) ((5 : Int32)).toNatClampNeg x13), (so_kind S), (so_goal S)) P), M, q) c3 (fun _ _ => rfl) ?_
  cases hM
  cases hx
  exact am_ev.kf 2 (fun _ _ => rfl)
theorem sj_Solver_refutation_p5_262 {fu : Nat} {dd : Nat} {sn : Nat} {sx : Nat → Int32} {M : List am_C} {q : Nat × Nat} {T : TxT} {D : BdT} {r : RdT} {B : BdT} {V : MvT} {L : RwT} {F : RwT} {R : Nat → RwT} {S : SoT} {P : HeT} {x1 : Int32} {l5 : Int64} {x7 : Int32} {l8 : Int64} {x10 : Int32} {x12 : Int32} {s0 : Int32} {oo : am_O} {e : (Int32 × BdT × MvT × (Nat → RwT) × SoT) ⊕ (Int32 × BdT × MvT × (Nat → RwT) × SoT)} {gg : Int32 → Int32 → BdT → MvT → (Nat → RwT) → SoT → Option ((Int32 × BdT × MvT × (Nat → RwT) × SoT) ⊕ (Int32 × BdT × MvT × (Nat → RwT) × SoT))} (hx : x_Solver_refutation_p5_136 sn sx M q T D r L F P x1 l5 x7 l8 x10 oo e) (hg : ∀ (x4 : Int32) (x12 : Int32) (B : BdT) (V : MvT) (R : Nat → RwT) (S : SoT), gg x4 x12 B V R S = some e → am_ev 6 k_Solver_refutation (136, [.ref 142, .int x1, .int (5 : Int32), .ref 140, .int x4, .long l5, am_ju, .int x7, .long l8, am_ju, .int x10, am_ju, .int x12, am_ju, am_ju, am_ju], [], (zl sn sx, xa xm T D r B (xb V L F R S P), M, q)) oo) (hM : j_Solver_refutation_262 fu (g_Solver fu dd).1 (g_Solver fu dd).2 gg B V R S x1 (5 : Int32) l5 x7 l8 x10 x12 s0 = some e) : am_ev 6 k_Solver_refutation (262, [.ref 142, .int x1, .int (5 : Int32), .ref 140, am_ju, .long l5, am_ju, .int x7, .long l8, am_ju, .int x10, am_ju, .int x12, am_ju, am_ju, am_ju], [.int s0], (zl sn sx, xa xm T D r B (xb V L F R S P), M, q)) oo := by
  unfold j_Solver_refutation_262 at hM
  refine am_ev.kg 3 (pc' := 136) (lv' := [.ref 142, .int x1, .int (5 : Int32), .ref 140, .int s0, .long l5, am_ju, .int x7, .long l8, am_ju, .int x10, am_ju, .int (x12 + (1 : Int32)), am_ju, am_ju, am_ju]) (st' := []) (h' := (zl sn sx, xa xm T D r B (xb V L F R S P), M, q)) (fun _ _ => rfl) ?_
  exact hg _ _ _ _ _ _ hM
theorem sj_Solver_refutation_p5_309 {fu : Nat} {dd : Nat} {sn : Nat} {sx : Nat → Int32} {M : List am_C} {q : Nat × Nat} {T : TxT} {D : BdT} {r : RdT} {B : BdT} {V : MvT} {L : RwT} {F : RwT} {R : Nat → RwT} {S : SoT} {P : HeT} {x4 : Int32} {oo : am_O} {e : Int32 × BdT × MvT × (Nat → RwT) × SoT} (hx : y_Solver_refutation_p5 sn sx M q T D r L F P oo e) (hM : j_Solver_refutation_309 fu (g_Solver fu dd).1 (g_Solver fu dd).2 B V R S x4 = some e) : am_ev 6 k_Solver_refutation (309, [am_ju, am_ju, am_ju, am_ju, .int x4, am_ju, am_ju, am_ju, am_ju, am_ju, am_ju, am_ju, am_ju, am_ju, am_ju, am_ju], [], (zl sn sx, xa xm T D r B (xb V L F R S P), M, q)) oo := by
  unfold j_Solver_refutation_309 at hM
  refine am_ev.kg 1 (pc' := 310) (lv' := [am_ju, am_ju, am_ju, am_ju, .int x4, am_ju, am_ju, am_ju, am_ju, am_ju, am_ju, am_ju, am_ju, am_ju, am_ju, am_ju]) (st' := [.int (0 : Int32)]) (h' := (zl sn sx, xa xm T D r B (xb V L F R S P), M, q)) (fun _ _ => rfl) ?_
  exact sj_Solver_refutation_p5_310 hx hM
theorem sj_Solver_refutation_p5_302 {fu : Nat} {dd : Nat} {sn : Nat} {sx : Nat → Int32} {M : List am_C} {q : Nat × Nat} {T : TxT} {D : BdT} {r : RdT} {B : BdT} {V : MvT} {L : RwT} {F : RwT} {R : Nat → RwT} {S : SoT} {P : HeT} {x4 : Int32} {s0 : Int32} {s1 : Int32} {oo : am_O} {e : Int32 × BdT × MvT × (Nat → RwT) × SoT} (hx : y_Solver_refutation_p5 sn sx M q T D r L F P oo e) (hM : j_Solver_refutation_302 fu (g_Solver fu dd).1 (g_Solver fu dd).2 B V R S x4 s0 s1 = some e) : am_ev 6 k_Solver_refutation (302, [am_ju, am_ju, am_ju, am_ju, .int x4, am_ju, am_ju, am_ju, am_ju, am_ju, am_ju, am_ju, am_ju, am_ju, am_ju, am_ju], [.int s1, .int s0], (zl sn sx, xa xm T D r B (xb V L F R S P), M, q)) oo := by
  unfold j_Solver_refutation_302 at hM
  rcases am_if hM with ⟨c4, hM⟩ | ⟨c4, hM⟩
  · refine am_ev.kt 1 309 305 [am_ju, am_ju, am_ju, am_ju, .int x4, am_ju, am_ju, am_ju, am_ju, am_ju, am_ju, am_ju, am_ju, am_ju, am_ju, am_ju] [] (zl sn sx, xa xm T D r B (xb V L F R S P), M, q) c4 (fun _ _ => rfl) ?_
    exact sj_Solver_refutation_p5_309 hx hM
  · refine am_ev.ke 1 309 305 [am_ju, am_ju, am_ju, am_ju, .int x4, am_ju, am_ju, am_ju, am_ju, am_ju, am_ju, am_ju, am_ju, am_ju, am_ju, am_ju] [] (zl sn sx, xa xm T D r B (xb V L F R S P), M, q) c4 (fun _ _ => rfl) ?_
    refine am_ev.kg 2 (pc' := 310) (lv' := [am_ju, am_ju, am_ju, am_ju, .int x4, am_ju, am_ju, am_ju, am_ju, am_ju, am_ju, am_ju, am_ju, am_ju, am_ju, am_ju]) (st' := [.int (1 : Int32)]) (h' := (zl sn sx, xa xm T D r B (xb V L F R S P), M, q)) (fun _ _ => rfl) ?_
    exact sj_Solver_refutation_p5_310 hx hM
theorem sj_Solver_refutation_p5_257 {fu : Nat} {dd : Nat} {sn : Nat} {sx : Nat → Int32} {M : List am_C} {q : Nat × Nat} {T : TxT} {D : BdT} {r : RdT} {B : BdT} {V : MvT} {L : RwT} {F : RwT} {R : Nat → RwT} {S : SoT} {P : HeT} {x1 : Int32} {l5 : Int64} {x7 : Int32} {l8 : Int64} {x10 : Int32} {x12 : Int32} {oo : am_O} {e : (Int32 × BdT × MvT × (Nat → RwT) × SoT) ⊕ (Int32 × BdT × MvT × (Nat → RwT) × SoT)} {gg : Int32 → Int32 → BdT → MvT → (Nat → RwT) → SoT → Option ((Int32 × BdT × MvT × (Nat → RwT) × SoT) ⊕ (Int32 × BdT × MvT × (Nat → RwT) × SoT))} (hx : x_Solver_refutation_p5_136 sn sx M q T D r L F P x1 l5 x7 l8 x10 oo e) (hg : ∀ (x4 : Int32) (x12 : Int32) (B : BdT) (V : MvT) (R : Nat → RwT) (S : SoT), gg x4 x12 B V R S = some e → am_ev 6 k_Solver_refutation (136, [.ref 142, .int x1, .int (5 : Int32), .ref 140, .int x4, .long l5, am_ju, .int x7, .long l8, am_ju, .int x10, am_ju, .int x12, am_ju, am_ju, am_ju], [], (zl sn sx, xa xm T D r B (xb V L F R S P), M, q)) oo) (hM : j_Solver_refutation_257 fu (g_Solver fu dd).1 (g_Solver fu dd).2 gg B V R S x1 (5 : Int32) l5 x7 l8 x10 x12 = some e) : am_ev 6 k_Solver_refutation (257, [.ref 142, .int x1, .int (5 : Int32), .ref 140, am_ju, .long l5, am_ju, .int x7, .long l8, am_ju, .int x10, am_ju, .int x12, am_ju, am_ju, am_ju], [], (zl sn sx, xa xm T D r B (xb V L F R S P), M, q)) oo := by
  unfold j_Solver_refutation_257 at hM
  refine am_ev.kg 2 (pc' := 262) (lv' := [.ref 142, .int x1, .int (5 : Int32), .ref 140, am_ju, .long l5, am_ju, .int x7, .long l8, am_ju, .int x10, am_ju, .int x12, am_ju, am_ju, am_ju]) (st' := [.int (1 : Int32)]) (h' := (zl sn sx, xa xm T D r B (xb V L F R S P), M, q)) (fun _ _ => rfl) ?_
  exact sj_Solver_refutation_p5_262 hx hg hM
theorem sj_Solver_refutation_p5_276 {fu : Nat} {dd : Nat} {sn : Nat} {sx : Nat → Int32} {M : List am_C} {q : Nat × Nat} {T : TxT} {D : BdT} {r : RdT} {B : BdT} {V : MvT} {L : RwT} {F : RwT} {R : Nat → RwT} {S : SoT} {P : HeT} {x4 : Int32} {oo : am_O} {e : Int32 × BdT × MvT × (Nat → RwT) × SoT} (hx : y_Solver_refutation_p5 sn sx M q T D r L F P oo e) (hM : j_Solver_refutation_276 fu (g_Solver fu dd).1 (g_Solver fu dd).2 B V R S x4 = some e) : am_ev 6 k_Solver_refutation (276, [.ref 142, am_ju, am_ju, am_ju, .int x4, am_ju, am_ju, am_ju, am_ju, am_ju, am_ju, am_ju, am_ju, am_ju, am_ju, am_ju], [], (zl sn sx, xa xm T D r B (xb V L F R S P), M, q)) oo := by
  unfold j_Solver_refutation_276 at hM
  rcases am_if hM with ⟨c5, hM⟩ | ⟨c5, hM⟩
  · refine am_ev.kt 3 309 283 [.ref 142, am_ju, am_ju, am_ju, .int x4, am_ju, am_ju, am_ju, am_ju, am_ju, am_ju, am_ju, am_ju, am_ju, am_ju, am_ju] [] (zl sn sx, xa xm T D r B (xb V L F R S P), M, q) c5 (fun _ _ => rfl) ?_
    refine am_ev.wk (lv' := [am_ju, am_ju, am_ju, am_ju, .int x4, am_ju, am_ju, am_ju, am_ju, am_ju, am_ju, am_ju, am_ju, am_ju, am_ju, am_ju]) (am_lc (Or.inl rfl) (am_lc (Or.inr rfl) (am_lc (Or.inr rfl) (am_lc (Or.inr rfl) (am_lc (Or.inr rfl) (am_lc (Or.inr rfl) (am_lc (Or.inr rfl) (am_lc (Or.inr rfl) (am_lc (Or.inr rfl) (am_lc (Or.inr rfl) (am_lc (Or.inr rfl) (am_lc (Or.inr rfl) (am_lc (Or.inr rfl) (am_lc (Or.inr rfl) (am_lc (Or.inr rfl) (am_lc (Or.inr rfl) am_ln)))))))))))))))) ?_
    exact sj_Solver_refutation_p5_309 hx hM
  · refine am_ev.ke 3 309 283 [.ref 142, am_ju, am_ju, am_ju, .int x4, am_ju, am_ju, am_ju, am_ju, am_ju, am_ju, am_ju, am_ju, am_ju, am_ju, am_ju] [] (zl sn sx, xa xm T D r B (xb V L F R S P), M, q) c5 (fun _ _ => rfl) ?_
    obtain ⟨rr, hc, hM⟩ := am_bind hM
    obtain ⟨r1, rfl⟩ : ∃ z, z = rr := ⟨_, rfl⟩
    refine am_ev.kg 2 (pc' := 287) (lv' := [.ref 142, am_ju, am_ju, am_ju, .int x4, am_ju, am_ju, am_ju, am_ju, am_ju, am_ju, am_ju, am_ju, am_ju, am_ju, am_ju]) (st' := [.ref 114]) (h' := (zl sn sx, xa xm T D r B (xb V L F R S P), M, q)) (fun _ _ => rfl) ?_
    refine am_ev.call rfl rfl rfl ((s_Board_inCheck_B hc).mono (by decide)) ?_
    show am_ev _ k_Solver_refutation (290, [.ref 142, am_ju, am_ju, am_ju, .int x4, am_ju, am_ju, am_ju, am_ju, am_ju, am_ju, am_ju, am_ju, am_ju, am_ju, am_ju], [.int r1], (zl sn sx, xa xm T D r B (xb V L F R S P), M, q)) oo
    rcases am_if hM with ⟨c6, hM⟩ | ⟨c6, hM⟩
    · refine am_ev.kt 3 301 297 [.ref 142, am_ju, am_ju, am_ju, .int x4, am_ju, am_ju, am_ju, am_ju, am_ju, am_ju, am_ju, am_ju, am_ju, am_ju, am_ju] [.int r1] (zl sn sx, xa xm T D r B (xb V L F R S P), M, q) c6 (fun _ _ => rfl) ?_
      refine am_ev.kg 1 (pc' := 302) (lv' := [.ref 142, am_ju, am_ju, am_ju, .int x4, am_ju, am_ju, am_ju, am_ju, am_ju, am_ju, am_ju, am_ju, am_ju, am_ju, am_ju]) (st' := [.int (0 : Int32), .int r1]) (h' := (zl sn sx, xa xm T D r B (xb V L F R S P), M, q)) (fun _ _ => rfl) ?_
      refine am_ev.wk (lv' := [am_ju, am_ju, am_ju, am_ju, .int x4, am_ju, am_ju, am_ju, am_ju, am_ju, am_ju, am_ju, am_ju, am_ju, am_ju, am_ju]) (am_lc (Or.inl rfl) (am_lc (Or.inr rfl) (am_lc (Or.inr rfl) (am_lc (Or.inr rfl) (am_lc (Or.inr rfl) (am_lc (Or.inr rfl) (am_lc (Or.inr rfl) (am_lc (Or.inr rfl) (am_lc (Or.inr rfl) (am_lc (Or.inr rfl) (am_lc (Or.inr rfl) (am_lc (Or.inr rfl) (am_lc (Or.inr rfl) (am_lc (Or.inr rfl) (am_lc (Or.inr rfl) (am_lc (Or.inr rfl) am_ln)))))))))))))))) ?_
      exact sj_Solver_refutation_p5_302 hx hM
    · refine am_ev.ke 3 301 297 [.ref 142, am_ju, am_ju, am_ju, .int x4, am_ju, am_ju, am_ju, am_ju, am_ju, am_ju, am_ju, am_ju, am_ju, am_ju, am_ju] [.int r1] (zl sn sx, xa xm T D r B (xb V L F R S P), M, q) c6 (fun _ _ => rfl) ?_
      refine am_ev.kg 2 (pc' := 302) (lv' := [.ref 142, am_ju, am_ju, am_ju, .int x4, am_ju, am_ju, am_ju, am_ju, am_ju, am_ju, am_ju, am_ju, am_ju, am_ju, am_ju]) (st' := [.int (1 : Int32), .int r1]) (h' := (zl sn sx, xa xm T D r B (xb V L F R S P), M, q)) (fun _ _ => rfl) ?_
      refine am_ev.wk (lv' := [am_ju, am_ju, am_ju, am_ju, .int x4, am_ju, am_ju, am_ju, am_ju, am_ju, am_ju, am_ju, am_ju, am_ju, am_ju, am_ju]) (am_lc (Or.inl rfl) (am_lc (Or.inr rfl) (am_lc (Or.inr rfl) (am_lc (Or.inr rfl) (am_lc (Or.inr rfl) (am_lc (Or.inr rfl) (am_lc (Or.inr rfl) (am_lc (Or.inr rfl) (am_lc (Or.inr rfl) (am_lc (Or.inr rfl) (am_lc (Or.inr rfl) (am_lc (Or.inr rfl) (am_lc (Or.inr rfl) (am_lc (Or.inr rfl) (am_lc (Or.inr rfl) (am_lc (Or.inr rfl) am_ln)))))))))))))))) ?_
      exact sj_Solver_refutation_p5_302 hx hM
theorem sj_Solver_refutation_p5_247 {fu : Nat} {dd : Nat} {sn : Nat} {sx : Nat → Int32} {M : List am_C} {q : Nat × Nat} {T : TxT} {D : BdT} {r : RdT} {B : BdT} {V : MvT} {L : RwT} {F : RwT} {R : Nat → RwT} {S : SoT} {P : HeT} {x1 : Int32} {x4 : Int32} {l5 : Int64} {x7 : Int32} {l8 : Int64} {x10 : Int32} {x12 : Int32} {x14 : Int32} {oo : am_O} {e : (Int32 × BdT × MvT × (Nat → RwT) × SoT) ⊕ (Int32 × BdT × MvT × (Nat → RwT) × SoT)} {gg : Int32 → Int32 → BdT → MvT → (Nat → RwT) → SoT → Option ((Int32 × BdT × MvT × (Nat → RwT) × SoT) ⊕ (Int32 × BdT × MvT × (Nat → RwT) × SoT))} (hx : x_Solver_refutation_p5_136 sn sx M q T D r L F P x1 l5 x7 l8 x10 oo e) (hg : ∀ (x4 : Int32) (x12 : Int32) (B : BdT) (V : MvT) (R : Nat → RwT) (S : SoT), gg x4 x12 B V R S = some e → am_ev 6 k_Solver_refutation (136, [.ref 142, .int x1, .int (5 : Int32), .ref 140, .int x4, .long l5, am_ju, .int x7, .long l8, am_ju, .int x10, am_ju, .int x12, am_ju, am_ju, am_ju], [], (zl sn sx, xa xm T D r B (xb V L F R S P), M, q)) oo) (hM : j_Solver_refutation_247 fu (g_Solver fu dd).1 (g_Solver fu dd).2 gg B V R S x1 (5 : Int32) x4 l5 x7 l8 x10 x12 x14 = some e) : am_ev 6 k_Solver_refutation (247, [.ref 142, .int x1, .int (5 : Int32), .ref 140, .int x4, .long l5, am_ju, .int x7, .long l8, am_ju, .int x10, am_ju, .int x12, am_ju, .int x14, am_ju], [], (zl sn sx, xa xm T D r B (xb V L F R S P), M, q)) oo := by
  unfold j_Solver_refutation_247 at hM
  rcases am_if hM with ⟨c7, hM⟩ | ⟨c7, hM⟩
  · refine am_ev.kt 2 257 252 [.ref 142, .int x1, .int (5 : Int32), .ref 140, .int x4, .long l5, am_ju, .int x7, .long l8, am_ju, .int x10, am_ju, .int x12, am_ju, .int x14, am_ju] [] (zl sn sx, xa xm T D r B (xb V L F R S P), M, q) c7 (fun _ _ => rfl) ?_
    refine am_ev.wk (lv' := [.ref 142, .int x1, .int (5 : Int32), .ref 140, am_ju, .long l5, am_ju, .int x7, .long l8, am_ju, .int x10, am_ju, .int x12, am_ju, am_ju, am_ju]) (am_lc (Or.inr rfl) (am_lc (Or.inr rfl) (am_lc (Or.inr rfl) (am_lc (Or.inr rfl) (am_lc (Or.inl rfl) (am_lc (Or.inr rfl) (am_lc (Or.inr rfl) (am_lc (Or.inr rfl) (am_lc (Or.inr rfl) (am_lc (Or.inr rfl) (am_lc (Or.inr rfl) (am_lc (Or.inr rfl) (am_lc (Or.inr rfl) (am_lc (Or.inr rfl) (am_lc (Or.inl rfl) (am_lc (Or.inr rfl) am_ln)))))))))))))))) ?_
    exact sj_Solver_refutation_p5_257 hx hg hM
  · refine am_ev.ke 2 257 252 [.ref 142, .int x1, .int (5 : Int32), .ref 140, .int x4, .long l5, am_ju, .int x7, .long l8, am_ju, .int x10, am_ju, .int x12, am_ju, .int x14, am_ju] [] (zl sn sx, xa xm T D r B (xb V L F R S P), M, q) c7 (fun _ _ => rfl) ?_
    rcases am_if hM with ⟨c8, hM⟩ | ⟨c8, hM⟩
    · refine am_ev.kt 2 261 257 [.ref 142, .int x1, .int (5 : Int32), .ref 140, .int x4, .long l5, am_ju, .int x7, .long l8, am_ju, .int x10, am_ju, .int x12, am_ju, .int x14, am_ju] [] (zl sn sx, xa xm T D r B (xb V L F R S P), M, q) c8 (fun _ _ => rfl) ?_
      refine am_ev.kg 1 (pc' := 262) (lv' := [.ref 142, .int x1, .int (5 : Int32), .ref 140, .int x4, .long l5, am_ju, .int x7, .long l8, am_ju, .int x10, am_ju, .int x12, am_ju, .int x14, am_ju]) (st' := [.int (0 : Int32)]) (h' := (zl sn sx, xa xm T D r B (xb V L F R S P), M, q)) (fun _ _ => rfl) ?_
      refine am_ev.wk (lv' := [.ref 142, .int x1, .int (5 : Int32), .ref 140, am_ju, .long l5, am_ju, .int x7, .long l8, am_ju, .int x10, am_ju, .int x12, am_ju, am_ju, am_ju]) (am_lc (Or.inr rfl) (am_lc (Or.inr rfl) (am_lc (Or.inr rfl) (am_lc (Or.inr rfl) (am_lc (Or.inl rfl) (am_lc (Or.inr rfl) (am_lc (Or.inr rfl) (am_lc (Or.inr rfl) (am_lc (Or.inr rfl) (am_lc (Or.inr rfl) (am_lc (Or.inr rfl) (am_lc (Or.inr rfl) (am_lc (Or.inr rfl) (am_lc (Or.inr rfl) (am_lc (Or.inl rfl) (am_lc (Or.inr rfl) am_ln)))))))))))))))) ?_
      exact sj_Solver_refutation_p5_262 hx hg hM
    · refine am_ev.ke 2 261 257 [.ref 142, .int x1, .int (5 : Int32), .ref 140, .int x4, .long l5, am_ju, .int x7, .long l8, am_ju, .int x10, am_ju, .int x12, am_ju, .int x14, am_ju] [] (zl sn sx, xa xm T D r B (xb V L F R S P), M, q) c8 (fun _ _ => rfl) ?_
      refine am_ev.wk (lv' := [.ref 142, .int x1, .int (5 : Int32), .ref 140, am_ju, .long l5, am_ju, .int x7, .long l8, am_ju, .int x10, am_ju, .int x12, am_ju, am_ju, am_ju]) (am_lc (Or.inr rfl) (am_lc (Or.inr rfl) (am_lc (Or.inr rfl) (am_lc (Or.inr rfl) (am_lc (Or.inl rfl) (am_lc (Or.inr rfl) (am_lc (Or.inr rfl) (am_lc (Or.inr rfl) (am_lc (Or.inr rfl) (am_lc (Or.inr rfl) (am_lc (Or.inr rfl) (am_lc (Or.inr rfl) (am_lc (Or.inr rfl) (am_lc (Or.inr rfl) (am_lc (Or.inl rfl) (am_lc (Or.inr rfl) am_ln)))))))))))))))) ?_
      exact sj_Solver_refutation_p5_257 hx hg hM
theorem sj_Solver_refutation_p5_217 {fu : Nat} {dd : Nat} {sn : Nat} {sx : Nat → Int32} {M : List am_C} {q : Nat × Nat} {T : TxT} {D : BdT} {r : RdT} {B : BdT} {V : MvT} {L : RwT} {F : RwT} {R : Nat → RwT} {S : SoT} {P : HeT} {x1 : Int32} {x4 : Int32} {l5 : Int64} {x7 : Int32} {l8 : Int64} {x10 : Int32} {x12 : Int32} {x13 : Int32} {x14 : Int32} {s0 : Int32} {oo : am_O} {e : (Int32 × BdT × MvT × (Nat → RwT) × SoT) ⊕ (Int32 × BdT × MvT × (Nat → RwT) × SoT)} {gg : Int32 → Int32 → BdT → MvT → (Nat → RwT) → SoT → Option ((Int32 × BdT × MvT × (Nat → RwT) × SoT) ⊕ (Int32 × BdT × MvT × (Nat → RwT) × SoT))} (hx : x_Solver_refutation_p5_136 sn sx M q T D r L F P x1 l5 x7 l8 x10 oo e) (hg : ∀ (x4 : Int32) (x12 : Int32) (B : BdT) (V : MvT) (R : Nat → RwT) (S : SoT), gg x4 x12 B V R S = some e → am_ev 6 k_Solver_refutation (136, [.ref 142, .int x1, .int (5 : Int32), .ref 140, .int x4, .long l5, am_ju, .int x7, .long l8, am_ju, .int x10, am_ju, .int x12, am_ju, am_ju, am_ju], [], (zl sn sx, xa xm T D r B (xb V L F R S P), M, q)) oo) (hM : j_Solver_refutation_217 fu (g_Solver fu dd).1 (g_Solver fu dd).2 gg B V R S x1 (5 : Int32) x4 l5 x7 l8 x10 x12 x13 x14 s0 = some e) : am_ev 6 k_Solver_refutation (217, [.ref 142, .int x1, .int (5 : Int32), .ref 140, .int x4, .long l5, am_ju, .int x7, .long l8, am_ju, .int x10, am_ju, .int x12, .int x13, .int x14, am_ju], [.int s0], (zl sn sx, xa xm T D r B (xb V L F R S P), M, q)) oo := by
  unfold j_Solver_refutation_217 at hM
  obtain ⟨rr, hc, hM⟩ := am_bind hM
  obtain ⟨bg14, rfl⟩ : ∃ z, z = rr := ⟨_, rfl⟩
  refine am_ev.kg 3 (pc' := 223) (lv' := [.ref 142, .int x1, .int (5 : Int32), .ref 140, .int x4, .long l5, am_ju, .int x7, .long l8, am_ju, .int x10, am_ju, .int x12, .int x13, .int x14, .int s0]) (st' := [.ref 114]) (h' := (zl sn sx, xa xm T D r B (xb V L F R S P), M, q)) (fun _ _ => rfl) ?_
  refine am_ev.call rfl rfl rfl ((s_Board_unmake_B hc).mono (by decide)) ?_
  show am_ev _ k_Solver_refutation (226, [.ref 142, .int x1, .int (5 : Int32), .ref 140, .int x4, .long l5, am_ju, .int x7, .long l8, am_ju, .int x10, am_ju, .int x12, .int x13, .int x14, .int s0], [], (zl sn sx, xa xm T D r bg14 (xb V L F R S P), M, q)) oo
  rcases am_if hM with ⟨c9, hM⟩ | ⟨c9, hM⟩
  · refine am_ev.kt 2 247 231 [.ref 142, .int x1, .int (5 : Int32), .ref 140, .int x4, .long l5, am_ju, .int x7, .long l8, am_ju, .int x10, am_ju, .int x12, .int x13, .int x14, .int s0] [] (zl sn sx, xa xm T D r bg14 (xb V L F R S P), M, q) c9 (fun _ _ => rfl) ?_
    refine am_ev.wk (lv' := [.ref 142, .int x1, .int (5 : Int32), .ref 140, .int x4, .long l5, am_ju, .int x7, .long l8, am_ju, .int x10, am_ju, .int x12, am_ju, .int x14, am_ju]) (am_lc (Or.inr rfl) (am_lc (Or.inr rfl) (am_lc (Or.inr rfl) (am_lc (Or.inr rfl) (am_lc (Or.inr rfl) (am_lc (Or.inr rfl) (am_lc (Or.inr rfl) (am_lc (Or.inr rfl) (am_lc (Or.inr rfl) (am_lc (Or.inr rfl) (am_lc (Or.inr rfl) (am_lc (Or.inr rfl) (am_lc (Or.inr rfl) (am_lc (Or.inl rfl) (am_lc (Or.inr rfl) (am_lc (Or.inl rfl) am_ln)))))))))))))))) ?_
    exact sj_Solver_refutation_p5_247 hx hg hM
  · refine am_ev.ke 2 247 231 [.ref 142, .int x1, .int (5 : Int32), .ref 140, .int x4, .long l5, am_ju, .int x7, .long l8, am_ju, .int x10, am_ju, .int x12, .int x13, .int x14, .int s0] [] (zl sn sx, xa xm T D r bg14 (xb V L F R S P), M, q) c9 (fun _ _ => rfl) ?_
    rcases am_if hM with ⟨c10, hM⟩ | ⟨c10, hM⟩
    · refine am_ev.kt 2 247 236 [.ref 142, .int x1, .int (5 : Int32), .ref 140, .int x4, .long l5, am_ju, .int x7, .long l8, am_ju, .int x10, am_ju, .int x12, .int x13, .int x14, .int s0] [] (zl sn sx, xa xm T D r bg14 (xb V L F R S P), M, q) c10 (fun _ _ => rfl) ?_
      refine am_ev.wk (lv' := [.ref 142, .int x1, .int (5 : Int32), .ref 140, .int x4, .long l5, am_ju, .int x7, .long l8, am_ju, .int x10, am_ju, .int x12, am_ju, .int x14, am_ju]) (am_lc (Or.inr rfl) (am_lc (Or.inr rfl) (am_lc (Or.inr rfl) (am_lc (Or.inr rfl) (am_lc (Or.inr rfl) (am_lc (Or.inr rfl) (am_lc (Or.inr rfl) (am_lc (Or.inr rfl) (am_lc (Or.inr rfl) (am_lc (Or.inr rfl) (am_lc (Or.inr rfl) (am_lc (Or.inr rfl) (am_lc (Or.inr rfl) (am_lc (Or.inl rfl) (am_lc (Or.inr rfl) (am_lc (Or.inl rfl) am_ln)))))))))))))))) ?_
      exact sj_Solver_refutation_p5_247 hx hg hM
    · refine am_ev.ke 2 247 236 [.ref 142, .int x1, .int (5 : Int32), .ref 140, .int x4, .long l5, am_ju, .int x7, .long l8, am_ju, .int x10, am_ju, .int x12, .int x13, .int x14, .int s0] [] (zl sn sx, xa xm T D r bg14 (xb V L F R S P), M, q) c10 (fun _ _ => rfl) ?_
      refine am_ev.wk (lv' := [.ref 142, am_ju, .int (5 : Int32), am_ju, am_ju, am_ju, am_ju, am_ju, am_ju, am_ju, am_ju, am_ju, am_ju, .int x13, am_ju, am_ju]) (am_lc (Or.inr rfl) (am_lc (Or.inl rfl) (am_lc (Or.inr rfl) (am_lc (Or.inl rfl) (am_lc (Or.inl rfl) (am_lc (Or.inl rfl) (am_lc (Or.inr rfl) (am_lc (Or.inl rfl) (am_lc (Or.inl rfl) (am_lc (Or.inr rfl) (am_lc (Or.inl rfl) (am_lc (Or.inr rfl) (am_lc (Or.inl rfl) (am_lc (Or.inr rfl) (am_lc (Or.inl rfl) (am_lc (Or.inl rfl) am_ln)))))))))))))))) ?_
      cases hM
      exact hx
theorem sj_Solver_refutation_p5_216 {fu : Nat} {dd : Nat} {sn : Nat} {sx : Nat → Int32} {M : List am_C} {q : Nat × Nat} {T : TxT} {D : BdT} {r : RdT} {B : BdT} {V : MvT} {L : RwT} {F : RwT} {R : Nat → RwT} {S : SoT} {P : HeT} {x1 : Int32} {x4 : Int32} {l5 : Int64} {x7 : Int32} {l8 : Int64} {x10 : Int32} {x12 : Int32} {x13 : Int32} {x14 : Int32} {oo : am_O} {e : (Int32 × BdT × MvT × (Nat → RwT) × SoT) ⊕ (Int32 × BdT × MvT × (Nat → RwT) × SoT)} {gg : Int32 → Int32 → BdT → MvT → (Nat → RwT) → SoT → Option ((Int32 × BdT × MvT × (Nat → RwT) × SoT) ⊕ (Int32 × BdT × MvT × (Nat → RwT) × SoT))} (hx : x_Solver_refutation_p5_136 sn sx M q T D r L F P x1 l5 x7 l8 x10 oo e) (hg : ∀ (x4 : Int32) (x12 : Int32) (B : BdT) (V : MvT) (R : Nat → RwT) (S : SoT), gg x4 x12 B V R S = some e → am_ev 6 k_Solver_refutation (136, [.ref 142, .int x1, .int (5 : Int32), .ref 140, .int x4, .long l5, am_ju, .int x7, .long l8, am_ju, .int x10, am_ju, .int x12, am_ju, am_ju, am_ju], [], (zl sn sx, xa xm T D r B (xb V L F R S P), M, q)) oo) (hM : j_Solver_refutation_216 fu (g_Solver fu dd).1 (g_Solver fu dd).2 gg B V R S x1 (5 : Int32) x4 l5 x7 l8 x10 x12 x13 x14 = some e) : am_ev 6 k_Solver_refutation (216, [.ref 142, .int x1, .int (5 : Int32), .ref 140, .int x4, .long l5, am_ju, .int x7, .long l8, am_ju, .int x10, am_ju, .int x12, .int x13, .int x14, am_ju], [], (zl sn sx, xa xm T D r B (xb V L F R S P), M, q)) oo := by
  unfold j_Solver_refutation_216 at hM
  refine am_ev.kg 1 (pc' := 217) (lv' := [.ref 142, .int x1, .int (5 : Int32), .ref 140, .int x4, .long l5, am_ju, .int x7, .long l8, am_ju, .int x10, am_ju, .int x12, .int x13, .int x14, am_ju]) (st' := [.int (0 : Int32)]) (h' := (zl sn sx, xa xm T D r B (xb V L F R S P), M, q)) (fun _ _ => rfl) ?_
  exact sj_Solver_refutation_p5_217 hx hg hM
theorem sj_Solver_refutation_p5_212 {fu : Nat} {dd : Nat} {sn : Nat} {sx : Nat → Int32} {M : List am_C} {q : Nat × Nat} {T : TxT} {D : BdT} {r : RdT} {B : BdT} {V : MvT} {L : RwT} {F : RwT} {R : Nat → RwT} {S : SoT} {P : HeT} {x1 : Int32} {x4 : Int32} {l5 : Int64} {x7 : Int32} {l8 : Int64} {x10 : Int32} {x12 : Int32} {x13 : Int32} {x14 : Int32} {oo : am_O} {e : (Int32 × BdT × MvT × (Nat → RwT) × SoT) ⊕ (Int32 × BdT × MvT × (Nat → RwT) × SoT)} {gg : Int32 → Int32 → BdT → MvT → (Nat → RwT) → SoT → Option ((Int32 × BdT × MvT × (Nat → RwT) × SoT) ⊕ (Int32 × BdT × MvT × (Nat → RwT) × SoT))} (hx : x_Solver_refutation_p5_136 sn sx M q T D r L F P x1 l5 x7 l8 x10 oo e) (hg : ∀ (x4 : Int32) (x12 : Int32) (B : BdT) (V : MvT) (R : Nat → RwT) (S : SoT), gg x4 x12 B V R S = some e → am_ev 6 k_Solver_refutation (136, [.ref 142, .int x1, .int (5 : Int32), .ref 140, .int x4, .long l5, am_ju, .int x7, .long l8, am_ju, .int x10, am_ju, .int x12, am_ju, am_ju, am_ju], [], (zl sn sx, xa xm T D r B (xb V L F R S P), M, q)) oo) (hM : j_Solver_refutation_212 fu (g_Solver fu dd).1 (g_Solver fu dd).2 gg B V R S x1 (5 : Int32) x4 l5 x7 l8 x10 x12 x13 x14 = some e) : am_ev 6 k_Solver_refutation (212, [.ref 142, .int x1, .int (5 : Int32), .ref 140, .int x4, .long l5, am_ju, .int x7, .long l8, am_ju, .int x10, am_ju, .int x12, .int x13, .int x14, am_ju], [], (zl sn sx, xa xm T D r B (xb V L F R S P), M, q)) oo := by
  unfold j_Solver_refutation_212 at hM
  refine am_ev.kg 2 (pc' := 217) (lv' := [.ref 142, .int x1, .int (5 : Int32), .ref 140, .int x4, .long l5, am_ju, .int x7, .long l8, am_ju, .int x10, am_ju, .int x12, .int x13, .int x14, am_ju]) (st' := [.int (1 : Int32)]) (h' := (zl sn sx, xa xm T D r B (xb V L F R S P), M, q)) (fun _ _ => rfl) ?_
  exact sj_Solver_refutation_p5_217 hx hg hM
theorem sj_Solver_refutation_p5_199 {fu : Nat} {dd : Nat} {sn : Nat} {sx : Nat → Int32} {M : List am_C} {q : Nat × Nat} {T : TxT} {D : BdT} {r : RdT} {B : BdT} {V : MvT} {L : RwT} {F : RwT} {R : Nat → RwT} {S : SoT} {P : HeT} {x1 : Int32} {x4 : Int32} {l5 : Int64} {x7 : Int32} {l8 : Int64} {x10 : Int32} {x12 : Int32} {x13 : Int32} {x14 : Int32} {oo : am_O} {e : (Int32 × BdT × MvT × (Nat → RwT) × SoT) ⊕ (Int32 × BdT × MvT × (Nat → RwT) × SoT)} {gg : Int32 → Int32 → BdT → MvT → (Nat → RwT) → SoT → Option ((Int32 × BdT × MvT × (Nat → RwT) × SoT) ⊕ (Int32 × BdT × MvT × (Nat → RwT) × SoT))} (hx : x_Solver_refutation_p5_136 sn sx M q T D r L F P x1 l5 x7 l8 x10 oo e) (hg : ∀ (x4 : Int32) (x12 : Int32) (B : BdT) (V : MvT) (R : Nat → RwT) (S : SoT), gg x4 x12 B V R S = some e → am_ev 6 k_Solver_refutation (136, [.ref 142, .int x1, .int (5 : Int32), .ref 140, .int x4, .long l5, am_ju, .int x7, .long l8, am_ju, .int x10, am_ju, .int x12, am_ju, am_ju, am_ju], [], (zl sn sx, xa xm T D r B (xb V L F R S P), M, q)) oo) (hM : j_Solver_refutation_199 fu (g_Solver fu dd).1 (g_Solver fu dd).2 gg B V R S x1 (5 : Int32) x4 l5 x7 l8 x10 x12 x13 x14 = some e) : am_ev 6 k_Solver_refutation (199, [.ref 142, .int x1, .int (5 : Int32), .ref 140, .int x4, .long l5, am_ju, .int x7, .long l8, am_ju, .int x10, am_ju, .int x12, .int x13, .int x14, am_ju], [], (zl sn sx, xa xm T D r B (xb V L F R S P), M, q)) oo := by
  unfold j_Solver_refutation_199 at hM
  obtain ⟨rr, hc, hM⟩ := am_bind hM
  obtain ⟨r9, bg10, vg11, rg12, sg13⟩ := rr
  refine am_ev.kg 7 (pc' := 206) (lv' := [.ref 142, .int x1, .int (5 : Int32), .ref 140, .int x4, .long l5, am_ju, .int x7, .long l8, am_ju, .int x10, am_ju, .int x12, .int x13, .int x14, am_ju]) (st' := [.int ((5 : Int32) + (1 : Int32)), .int (x1 - (1 : Int32)), .ref 142]) (h' := (zl sn sx, xa xm T D r B (xb V L F R S P), M, q)) (fun _ _ => rfl) ?_
  refine am_ev.call rfl rfl rfl ((s_Solver_hasKey_p6 hc).mono (by decide)) ?_
  show am_ev _ k_Solver_refutation (209, [.ref 142, .int x1, .int (5 : Int32), .ref 140, .int x4, .long l5, am_ju, .int x7, .long l8, am_ju, .int x10, am_ju, .int x12, .int x13, .int x14, am_ju], [.int r9], (zl sn sx, xa xm T D r bg10 (xb vg11 L F rg12 sg13 P), M, q)) oo
  rcases am_if hM with ⟨c11, hM⟩ | ⟨c11, hM⟩
  · refine am_ev.kt 1 216 212 [.ref 142, .int x1, .int (5 : Int32), .ref 140, .int x4, .long l5, am_ju, .int x7, .long l8, am_ju, .int x10, am_ju, .int x12, .int x13, .int x14, am_ju] [] (zl sn sx, xa xm T D r bg10 (xb vg11 L F rg12 sg13 P), M, q) c11 (fun _ _ => rfl) ?_
    exact sj_Solver_refutation_p5_216 hx hg hM
  · refine am_ev.ke 1 216 212 [.ref 142, .int x1, .int (5 : Int32), .ref 140, .int x4, .long l5, am_ju, .int x7, .long l8, am_ju, .int x10, am_ju, .int x12, .int x13, .int x14, am_ju] [] (zl sn sx, xa xm T D r bg10 (xb vg11 L F rg12 sg13 P), M, q) c11 (fun _ _ => rfl) ?_
    exact sj_Solver_refutation_p5_212 hx hg hM
theorem sb_Solver_refutation_p5_136 {fu : Nat} {dd : Nat} {sn : Nat} {sx : Nat → Int32} {M : List am_C} {q : Nat × Nat} {T : TxT} {D : BdT} {r : RdT} {L : RwT} {F : RwT} {P : HeT} {x1 : Int32} {l5 : Int64} {x7 : Int32} {l8 : Int64} {x10 : Int32} {oo : am_O} {e : (Int32 × BdT × MvT × (Nat → RwT) × SoT) ⊕ (Int32 × BdT × MvT × (Nat → RwT) × SoT)} {gg : Int32 → Int32 → BdT → MvT → (Nat → RwT) → SoT → Option ((Int32 × BdT × MvT × (Nat → RwT) × SoT) ⊕ (Int32 × BdT × MvT × (Nat → RwT) × SoT))} (hx : x_Solver_refutation_p5_136 sn sx M q T D r L F P x1 l5 x7 l8 x10 oo e) (hg : ∀ (x4 : Int32) (x12 : Int32) (B : BdT) (V : MvT) (R : Nat → RwT) (S : SoT), gg x4 x12 B V R S = some e → am_ev 6 k_Solver_refutation (136, [.ref 142, .int x1, .int (5 : Int32), .ref 140, .int x4, .long l5, am_ju, .int x7, .long l8, am_ju, .int x10, am_ju, .int x12, am_ju, am_ju, am_ju], [], (zl sn sx, xa xm T D r B (xb V L F R S P), M, q)) oo) {x4 : Int32} {x12 : Int32} {B : BdT} {V : MvT} {R : Nat → RwT} {S : SoT} (hM : b_Solver_refutation_136 fu (g_Solver fu dd).1 (g_Solver fu dd).2 x1 (5 : Int32) l5 x7 l8 x10 gg x4 x12 B V R S = some e) : am_ev 6 k_Solver_refutation (136, [.ref 142, .int x1, .int (5 : Int32), .ref 140, .int x4, .long l5, am_ju, .int x7, .long l8, am_ju, .int x10, am_ju, .int x12, am_ju, am_ju, am_ju], [], (zl sn sx, xa xm T D r B (xb V L F R S P), M, q)) oo := by
  unfold b_Solver_refutation_136 at hM
  rcases am_if hM with ⟨c12, hM⟩ | ⟨c12, hM⟩
  · refine am_ev.kt 4 270 145 [.ref 142, .int x1, .int (5 : Int32), .ref 140, .int x4, .long l5, am_ju, .int x7, .long l8, am_ju, .int x10, am_ju, .int x12, am_ju, am_ju, am_ju] [] (zl sn sx, xa xm T D r B (xb V L F R S P), M, q) c12 (fun _ _ => rfl) ?_
    refine am_ev.wk (lv' := [.ref 142, .int x1, .int (5 : Int32), .ref 140, .int x4, .long l5, am_ju, .int x7, .long l8, am_ju, .int x10, am_ju, am_ju, am_ju, am_ju, am_ju]) (am_lc (Or.inr rfl) (am_lc (Or.inr rfl) (am_lc (Or.inr rfl) (am_lc (Or.inr rfl) (am_lc (Or.inr rfl) (am_lc (Or.inr rfl) (am_lc (Or.inr rfl) (am_lc (Or.inr rfl) (am_lc (Or.inr rfl) (am_lc (Or.inr rfl) (am_lc (Or.inr rfl) (am_lc (Or.inr rfl) (am_lc (Or.inl rfl) (am_lc (Or.inr rfl) (am_lc (Or.inr rfl) (am_lc (Or.inr rfl) am_ln)))))))))))))))) ?_
    cases hM
    exact hx
  · refine am_ev.ke 4 270 145 [.ref 142, .int x1, .int (5 : Int32), .ref 140, .int x4, .long l5, am_ju, .int x7, .long l8, am_ju, .int x10, am_ju, .int x12, am_ju, am_ju, am_ju] [] (zl sn sx, xa xm T D r B (xb V L F R S P), M, q) c12 (fun _ _ => rfl) ?_
    obtain ⟨c13, hM⟩ := am_ifn hM
    refine am_ev.kc 4 152 [.ref 142, .int x1, .int (5 : Int32), .ref 140, .int x4, .long l5, am_ju, .int x7, .long l8, am_ju, .int x10, am_ju, .int x12, am_ju, am_ju, am_ju] [.int ((rw_told (R ((5 : Int32)).toNatClampNeg)) (x12).toNatClampNeg)] (zl sn sx, xa xm T D r B (xb V L F R S P), M, q) c13 (fun _ _ => rfl) ?_
    obtain ⟨rr, hc, hM⟩ := am_bind hM
    obtain ⟨bg5, rfl⟩ : ∃ z, z = rr := ⟨_, rfl⟩
    refine am_ev.kg 4 (pc' := 160) (lv' := [.ref 142, .int x1, .int (5 : Int32), .ref 140, .int x4, .long l5, am_ju, .int x7, .long l8, am_ju, .int x10, am_ju, .int x12, .int ((rw_told (R ((5 : Int32)).toNatClampNeg)) (x12).toNatClampNeg), am_ju, am_ju]) (st' := [.int ((rw_told (R ((5 : Int32)).toNatClampNeg)) (x12).toNatClampNeg), .ref 114]) (h' := (zl sn sx, xa xm T D r B (xb V L F R S P), M, q)) (fun _ _ => rfl) ?_
    refine am_ev.call rfl rfl rfl ((s_Board_make_B hc).mono (by decide)) ?_
    show am_ev _ k_Solver_refutation (163, [.ref 142, .int x1, .int (5 : Int32), .ref 140, .int x4, .long l5, am_ju, .int x7, .long l8, am_ju, .int x10, am_ju, .int x12, .int ((rw_told (R ((5 : Int32)).toNatClampNeg)) (x12).toNatClampNeg), am_ju, am_ju], [], (zl sn sx, xa xm T D r bg5 (xb V L F R S P), M, q)) oo
    obtain ⟨rr, hc, hM⟩ := am_bind hM
    obtain ⟨r6, rfl⟩ : ∃ z, z = rr := ⟨_, rfl⟩
    refine am_ev.kg 2 (pc' := 167) (lv' := [.ref 142, .int x1, .int (5 : Int32), .ref 140, .int x4, .long l5, am_ju, .int x7, .long l8, am_ju, .int x10, am_ju, .int x12, .int ((rw_told (R ((5 : Int32)).toNatClampNeg)) (x12).toNatClampNeg), am_ju, am_ju]) (st' := [.ref 114]) (h' := (zl sn sx, xa xm T D r bg5 (xb V L F R S P), M, q)) (fun _ _ => rfl) ?_
    refine am_ev.call rfl rfl rfl ((s_Board_isLegal_B hc).mono (by decide)) ?_
    show am_ev _ k_Solver_refutation (170, [.ref 142, .int x1, .int (5 : Int32), .ref 140, .int x4, .long l5, am_ju, .int x7, .long l8, am_ju, .int x10, am_ju, .int x12, .int ((rw_told (R ((5 : Int32)).toNatClampNeg)) (x12).toNatClampNeg), am_ju, am_ju], [.int r6], (zl sn sx, xa xm T D r bg5 (xb V L F R S P), M, q)) oo
    rcases am_if hM with ⟨c14, hM⟩ | ⟨c14, hM⟩
    · refine am_ev.kt 3 216 177 [.ref 142, .int x1, .int (5 : Int32), .ref 140, .int x4, .long l5, am_ju, .int x7, .long l8, am_ju, .int x10, am_ju, .int x12, .int ((rw_told (R ((5 : Int32)).toNatClampNeg)) (x12).toNatClampNeg), .int r6, am_ju] [] (zl sn sx, xa xm T D r bg5 (xb V L F R S P), M, q) c14 (fun _ _ => rfl) ?_
      exact sj_Solver_refutation_p5_216 hx hg hM
    · refine am_ev.ke 3 216 177 [.ref 142, .int x1, .int (5 : Int32), .ref 140, .int x4, .long l5, am_ju, .int x7, .long l8, am_ju, .int x10, am_ju, .int x12, .int ((rw_told (R ((5 : Int32)).toNatClampNeg)) (x12).toNatClampNeg), .int r6, am_ju] [] (zl sn sx, xa xm T D r bg5 (xb V L F R S P), M, q) c14 (fun _ _ => rfl) ?_
      rcases am_if hM with ⟨c15, hM⟩ | ⟨c15, hM⟩
      · refine am_ev.kt 4 199 185 [.ref 142, .int x1, .int (5 : Int32), .ref 140, .int x4, .long l5, am_ju, .int x7, .long l8, am_ju, .int x10, am_ju, .int x12, .int ((rw_told (R ((5 : Int32)).toNatClampNeg)) (x12).toNatClampNeg), .int r6, am_ju] [] (zl sn sx, xa xm T D r bg5 (xb V L F R S P), M, q) c15 (fun _ _ => rfl) ?_
        exact sj_Solver_refutation_p5_199 hx hg hM
      · refine am_ev.ke 4 199 185 [.ref 142, .int x1, .int (5 : Int32), .ref 140, .int x4, .long l5, am_ju, .int x7, .long l8, am_ju, .int x10, am_ju, .int x12, .int ((rw_told (R ((5 : Int32)).toNatClampNeg)) (x12).toNatClampNeg), .int r6, am_ju] [] (zl sn sx, xa xm T D r bg5 (xb V L F R S P), M, q) c15 (fun _ _ => rfl) ?_
        obtain ⟨rr, hc, hM⟩ := am_bind hM
        obtain ⟨r7, bg8⟩ := rr
        refine am_ev.kg 4 (pc' := 193) (lv' := [.ref 142, .int x1, .int (5 : Int32), .ref 140, .int x4, .long l5, am_ju, .int x7, .long l8, am_ju, .int x10, am_ju, .int x12, .int ((rw_told (R ((5 : Int32)).toNatClampNeg)) (x12).toNatClampNeg), .int r6, am_ju]) (st' := [.int (so_goal S), .ref 123]) (h' := (zl sn sx, xa xm T D r bg5 (xb V L F R S P), M, q)) (fun _ _ => rfl) ?_
        refine am_ev.call rfl rfl rfl ((s_Mover_isBeaten hc).mono (by decide)) ?_
        show am_ev _ k_Solver_refutation (196, [.ref 142, .int x1, .int (5 : Int32), .ref 140, .int x4, .long l5, am_ju, .int x7, .long l8, am_ju, .int x10, am_ju, .int x12, .int ((rw_told (R ((5 : Int32)).toNatClampNeg)) (x12).toNatClampNeg), .int r6, am_ju], [.int r7], (zl sn sx, xa xm T D r bg8 (xb V L F R S P), M, q)) oo
        rcases am_if hM with ⟨c16, hM⟩ | ⟨c16, hM⟩
        · refine am_ev.kt 1 212 199 [.ref 142, .int x1, .int (5 : Int32), .ref 140, .int x4, .long l5, am_ju, .int x7, .long l8, am_ju, .int x10, am_ju, .int x12, .int ((rw_told (R ((5 : Int32)).toNatClampNeg)) (x12).toNatClampNeg), .int r6, am_ju] [] (zl sn sx, xa xm T D r bg8 (xb V L F R S P), M, q) c16 (fun _ _ => rfl) ?_
          exact sj_Solver_refutation_p5_212 hx hg hM
        · refine am_ev.ke 1 212 199 [.ref 142, .int x1, .int (5 : Int32), .ref 140, .int x4, .long l5, am_ju, .int x7, .long l8, am_ju, .int x10, am_ju, .int x12, .int ((rw_told (R ((5 : Int32)).toNatClampNeg)) (x12).toNatClampNeg), .int r6, am_ju] [] (zl sn sx, xa xm T D r bg8 (xb V L F R S P), M, q) c16 (fun _ _ => rfl) ?_
          exact sj_Solver_refutation_p5_199 hx hg hM
theorem sl_Solver_refutation_p5_136 {fu : Nat} {dd : Nat} {sn : Nat} {sx : Nat → Int32} {M : List am_C} {q : Nat × Nat} {T : TxT} {D : BdT} {r : RdT} {L : RwT} {F : RwT} {P : HeT} {x1 : Int32} {l5 : Int64} {x7 : Int32} {l8 : Int64} {x10 : Int32} {oo : am_O} {e : (Int32 × BdT × MvT × (Nat → RwT) × SoT) ⊕ (Int32 × BdT × MvT × (Nat → RwT) × SoT)} (hx : x_Solver_refutation_p5_136 sn sx M q T D r L F P x1 l5 x7 l8 x10 oo e) : ∀ (n : Nat) (x4 : Int32) (x12 : Int32) (B : BdT) (V : MvT) (R : Nat → RwT) (S : SoT), l_Solver_refutation_136 fu (g_Solver fu dd).1 (g_Solver fu dd).2 x1 (5 : Int32) l5 x7 l8 x10 n x4 x12 B V R S = some e → am_ev 6 k_Solver_refutation (136, [.ref 142, .int x1, .int (5 : Int32), .ref 140, .int x4, .long l5, am_ju, .int x7, .long l8, am_ju, .int x10, am_ju, .int x12, am_ju, am_ju, am_ju], [], (zl sn sx, xa xm T D r B (xb V L F R S P), M, q)) oo
  | 0, _, _, _, _, _, _, hM => by have h : (none : Option ((Int32 × BdT × MvT × (Nat → RwT) × SoT) ⊕ (Int32 × BdT × MvT × (Nat → RwT) × SoT))) = some e := hM; cases h
  | n + 1, _, _, _, _, _, _, hM => sb_Solver_refutation_p5_136 hx (fun _ _ _ _ _ _ hM => sl_Solver_refutation_p5_136 hx n _ _ _ _ _ _ hM) hM
theorem sj_Solver_refutation_p5_96 {fu : Nat} {dd : Nat} {sn : Nat} {sx : Nat → Int32} {M : List am_C} {q : Nat × Nat} {T : TxT} {D : BdT} {r : RdT} {B : BdT} {V : MvT} {L : RwT} {F : RwT} {R : Nat → RwT} {S : SoT} {P : HeT} {x1 : Int32} {x4 : Int32} {l5 : Int64} {x7 : Int32} {x10 : Int32} {t0 : Int64} {oo : am_O} {e : (Int32 × BdT × MvT × (Nat → RwT) × SoT) ⊕ (Int32 × BdT × MvT × (Nat → RwT) × SoT)} {gg : Int32 → Int64 → Int64 → Int32 → BdT → MvT → (Nat → RwT) → SoT → Option ((Int32 × BdT × MvT × (Nat → RwT) × SoT) ⊕ (Int32 × BdT × MvT × (Nat → RwT) × SoT))} (hx : x_Solver_refutation_p5_68 sn sx M q T D r L F P x1 x7 oo e) (hg : ∀ (x4 : Int32) (l5 : Int64) (l8 : Int64) (x10 : Int32) (B : BdT) (V : MvT) (R : Nat → RwT) (S : SoT), gg x4 l5 l8 x10 B V R S = some e → am_ev 6 k_Solver_refutation (68, [.ref 142, .int x1, .int (5 : Int32), .ref 140, .int x4, .long l5, am_ju, .int x7, .long l8, am_ju, .int x10, am_ju, am_ju, am_ju, am_ju, am_ju], [], (zl sn sx, xa xm T D r B (xb V L F R S P), M, q)) oo) (hM : j_Solver_refutation_96 fu (g_Solver fu dd).1 (g_Solver fu dd).2 gg B V R S x1 (5 : Int32) x4 l5 x7 x10 t0 = some e) : am_ev 6 k_Solver_refutation (96, [.ref 142, .int x1, .int (5 : Int32), .ref 140, .int x4, .long l5, am_ju, .int x7, am_ju, am_ju, .int x10, am_ju, am_ju, am_ju, am_ju, am_ju], [.long t0], (zl sn sx, xa xm T D r B (xb V L F R S P), M, q)) oo := by
  unfold j_Solver_refutation_96 at hM
  obtain ⟨rr, hc, hM⟩ := am_bind hM
  obtain ⟨r2, rfl⟩ : ∃ z, z = rr := ⟨_, rfl⟩
  refine am_ev.call rfl rfl rfl ((s_Mover_lowest hc).mono (by decide)) ?_
  show am_ev _ k_Solver_refutation (99, [.ref 142, .int x1, .int (5 : Int32), .ref 140, .int x4, .long l5, am_ju, .int x7, am_ju, am_ju, .int x10, am_ju, am_ju, am_ju, am_ju, am_ju], [.int r2], (zl sn sx, xa xm T D r B (xb V L F R S P), M, q)) oo
  obtain ⟨rr, hc, hM⟩ := am_bind hM
  obtain ⟨wg3, rfl⟩ : ∃ z, z = rr := ⟨_, rfl⟩
  refine am_ev.kg 15 (pc' := 124) (lv' := [.ref 142, .int x1, .int (5 : Int32), .ref 140, .int x4, .long (l5 &&& ((am_shl (1 : Int64) r2) ^^^ (-1 : Int64))), am_ju, .int x7, .long (0 : Int64), am_ju, .int x10, .int r2, am_ju, am_ju, am_ju, am_ju]) (st' := [.ref 140, .int r2, .ref 123]) (h' := (zl sn sx, xa xm T D r B (xb V L F R S P), M, q)) (fun _ _ => rfl) ?_
  refine am_ev.call rfl rfl rfl ((s_Mover_fillFrom_R5x hc).mono (by decide)) ?_
  show am_ev _ k_Solver_refutation (127, [.ref 142, .int x1, .int (5 : Int32), .ref 140, .int x4, .long (l5 &&& ((am_shl (1 : Int64) r2) ^^^ (-1 : Int64))), am_ju, .int x7, .long (0 : Int64), am_ju, .int x10, .int r2, am_ju, am_ju, am_ju, am_ju], [], (zl sn sx, xa xm T D r B (xb V L F (va_up R ((5 : Int32)).toNatClampNeg wg3) S P), M, q)) oo
  obtain ⟨rr, hc, hM⟩ := am_bind hM
  obtain ⟨wg4, rfl⟩ : ∃ z, z = rr := ⟨_, rfl⟩
  refine am_ev.kg 2 (pc' := 130) (lv' := [.ref 142, .int x1, .int (5 : Int32), .ref 140, .int x4, .long (l5 &&& ((am_shl (1 : Int64) r2) ^^^ (-1 : Int64))), am_ju, .int x7, .long (0 : Int64), am_ju, .int x10, .int r2, am_ju, am_ju, am_ju, am_ju]) (st' := [.int x7, .ref 140]) (h' := (zl sn sx, xa xm T D r B (xb V L F (va_up R ((5 : Int32)).toNatClampNeg wg3) S P), M, q)) (fun _ _ => rfl) ?_
  refine am_ev.call rfl rfl rfl ((s_MoveRow_bringFirst_R5x hc).mono (by decide)) ?_
  show am_ev _ k_Solver_refutation (133, [.ref 142, .int x1, .int (5 : Int32), .ref 140, .int x4, .long (l5 &&& ((am_shl (1 : Int64) r2) ^^^ (-1 : Int64))), am_ju, .int x7, .long (0 : Int64), am_ju, .int x10, .int r2, am_ju, am_ju, am_ju, am_ju], [], (zl sn sx, xa xm T D r B (xb V L F (va_up (va_up R ((5 : Int32)).toNatClampNeg wg3) ((5 : Int32)).toNatClampNeg wg4) S P), M, q)) oo
  refine am_ev.kg 2 (pc' := 136) (lv' := [.ref 142, .int x1, .int (5 : Int32), .ref 140, .int x4, .long (l5 &&& ((am_shl (1 : Int64) r2) ^^^ (-1 : Int64))), am_ju, .int x7, .long (0 : Int64), am_ju, .int x10, .int r2, .int (0 : Int32), am_ju, am_ju, am_ju]) (st' := []) (h' := (zl sn sx, xa xm T D r B (xb V L F (va_up (va_up R ((5 : Int32)).toNatClampNeg wg3) ((5 : Int32)).toNatClampNeg wg4) S P), M, q)) (fun _ _ => rfl) ?_
  refine am_ev.wk (lv' := [.ref 142, .int x1, .int (5 : Int32), .ref 140, .int x4, .long (l5 &&& ((am_shl (1 : Int64) r2) ^^^ (-1 : Int64))), am_ju, .int x7, .long (0 : Int64), am_ju, .int x10, am_ju, .int (0 : Int32), am_ju, am_ju, am_ju]) (am_lc (Or.inr rfl) (am_lc (Or.inr rfl) (am_lc (Or.inr rfl) (am_lc (Or.inr rfl) (am_lc (Or.inr rfl) (am_lc (Or.inr rfl) (am_lc (Or.inr rfl) (am_lc (Or.inr rfl) (am_lc (Or.inr rfl) (am_lc (Or.inr rfl) (am_lc (Or.inr rfl) (am_lc (Or.inl rfl) (am_lc (Or.inr rfl) (am_lc (Or.inr rfl) (am_lc (Or.inr rfl) (am_lc (Or.inr rfl) am_ln)))))))))))))))) ?_
  obtain ⟨z, hz, hM⟩ := am_bind hM
  rcases z with z | z
  ·
    obtain ⟨x13_1, bz_1, vz_1, rz_1, sz_1⟩ := z
    refine sl_Solver_refutation_p5_136 ?_ _ _ _ _ _ _ _ hz
    show am_ev 6 k_Solver_refutation (236, [.ref 142, am_ju, .int (5 : Int32), am_ju, am_ju, am_ju, am_ju, am_ju, am_ju, am_ju, am_ju, am_ju, am_ju, .int x13_1, am_ju, am_ju], [], (zl sn sx, xa xm T D r bz_1 (xb vz_1 L F rz_1 sz_1 P), M, q)) oo
    cases hM
    exact hx
  ·
    obtain ⟨x4_2, bz_2, vz_2, rz_2, sz_2⟩ := z
    refine sl_Solver_refutation_p5_136 ?_ _ _ _ _ _ _ _ hz
    show am_ev 6 k_Solver_refutation (270, [.ref 142, .int x1, .int (5 : Int32), .ref 140, .int x4_2, .long (l5 &&& ((am_shl (1 : Int64) r2) ^^^ (-1 : Int64))), am_ju, .int x7, .long (0 : Int64), am_ju, .int x10, am_ju, am_ju, am_ju, am_ju, am_ju], [], (zl sn sx, xa xm T D r bz_2 (xb vz_2 L F rz_2 sz_2 P), M, q)) oo
    exact sj_Solver_refutation_p5_270 hx hg hM
theorem sb_Solver_refutation_p5_68 {fu : Nat} {dd : Nat} {sn : Nat} {sx : Nat → Int32} {M : List am_C} {q : Nat × Nat} {T : TxT} {D : BdT} {r : RdT} {L : RwT} {F : RwT} {P : HeT} {x1 : Int32} {x7 : Int32} {oo : am_O} {e : (Int32 × BdT × MvT × (Nat → RwT) × SoT) ⊕ (Int32 × BdT × MvT × (Nat → RwT) × SoT)} {gg : Int32 → Int64 → Int64 → Int32 → BdT → MvT → (Nat → RwT) → SoT → Option ((Int32 × BdT × MvT × (Nat → RwT) × SoT) ⊕ (Int32 × BdT × MvT × (Nat → RwT) × SoT))} (hx : x_Solver_refutation_p5_68 sn sx M q T D r L F P x1 x7 oo e) (hg : ∀ (x4 : Int32) (l5 : Int64) (l8 : Int64) (x10 : Int32) (B : BdT) (V : MvT) (R : Nat → RwT) (S : SoT), gg x4 l5 l8 x10 B V R S = some e → am_ev 6 k_Solver_refutation (68, [.ref 142, .int x1, .int (5 : Int32), .ref 140, .int x4, .long l5, am_ju, .int x7, .long l8, am_ju, .int x10, am_ju, am_ju, am_ju, am_ju, am_ju], [], (zl sn sx, xa xm T D r B (xb V L F R S P), M, q)) oo) {x4 : Int32} {l5 : Int64} {l8 : Int64} {x10 : Int32} {B : BdT} {V : MvT} {R : Nat → RwT} {S : SoT} (hM : b_Solver_refutation_68 fu (g_Solver fu dd).1 (g_Solver fu dd).2 x1 (5 : Int32) x7 gg x4 l5 l8 x10 B V R S = some e) : am_ev 6 k_Solver_refutation (68, [.ref 142, .int x1, .int (5 : Int32), .ref 140, .int x4, .long l5, am_ju, .int x7, .long l8, am_ju, .int x10, am_ju, am_ju, am_ju, am_ju, am_ju], [], (zl sn sx, xa xm T D r B (xb V L F R S P), M, q)) oo := by
  unfold b_Solver_refutation_68 at hM
  rcases am_if hM with ⟨c17, hM⟩ | ⟨c17, hM⟩
  · refine am_ev.kt 3 276 75 [.ref 142, .int x1, .int (5 : Int32), .ref 140, .int x4, .long l5, am_ju, .int x7, .long l8, am_ju, .int x10, am_ju, am_ju, am_ju, am_ju, am_ju] [] (zl sn sx, xa xm T D r B (xb V L F R S P), M, q) c17 (fun _ _ => rfl) ?_
    refine am_ev.wk (lv' := [.ref 142, am_ju, am_ju, am_ju, .int x4, am_ju, am_ju, am_ju, am_ju, am_ju, am_ju, am_ju, am_ju, am_ju, am_ju, am_ju]) (am_lc (Or.inr rfl) (am_lc (Or.inl rfl) (am_lc (Or.inl rfl) (am_lc (Or.inl rfl) (am_lc (Or.inr rfl) (am_lc (Or.inl rfl) (am_lc (Or.inr rfl) (am_lc (Or.inl rfl) (am_lc (Or.inl rfl) (am_lc (Or.inr rfl) (am_lc (Or.inl rfl) (am_lc (Or.inr rfl) (am_lc (Or.inr rfl) (am_lc (Or.inr rfl) (am_lc (Or.inr rfl) (am_lc (Or.inr rfl) am_ln)))))))))))))))) ?_
    cases hM
    exact hx
  · refine am_ev.ke 3 276 75 [.ref 142, .int x1, .int (5 : Int32), .ref 140, .int x4, .long l5, am_ju, .int x7, .long l8, am_ju, .int x10, am_ju, am_ju, am_ju, am_ju, am_ju] [] (zl sn sx, xa xm T D r B (xb V L F R S P), M, q) c17 (fun _ _ => rfl) ?_
    rcases am_if hM with ⟨c18, hM⟩ | ⟨c18, hM⟩
    · refine am_ev.kt 4 276 82 [.ref 142, .int x1, .int (5 : Int32), .ref 140, .int x4, .long l5, am_ju, .int x7, .long l8, am_ju, .int x10, am_ju, am_ju, am_ju, am_ju, am_ju] [] (zl sn sx, xa xm T D r B (xb V L F R S P), M, q) c18 (fun _ _ => rfl) ?_
      refine am_ev.wk (lv' := [.ref 142, am_ju, am_ju, am_ju, .int x4, am_ju, am_ju, am_ju, am_ju, am_ju, am_ju, am_ju, am_ju, am_ju, am_ju, am_ju]) (am_lc (Or.inr rfl) (am_lc (Or.inl rfl) (am_lc (Or.inl rfl) (am_lc (Or.inl rfl) (am_lc (Or.inr rfl) (am_lc (Or.inl rfl) (am_lc (Or.inr rfl) (am_lc (Or.inl rfl) (am_lc (Or.inl rfl) (am_lc (Or.inr rfl) (am_lc (Or.inl rfl) (am_lc (Or.inr rfl) (am_lc (Or.inr rfl) (am_lc (Or.inr rfl) (am_lc (Or.inr rfl) (am_lc (Or.inr rfl) am_ln)))))))))))))))) ?_
      cases hM
      exact hx
    · refine am_ev.ke 4 276 82 [.ref 142, .int x1, .int (5 : Int32), .ref 140, .int x4, .long l5, am_ju, .int x7, .long l8, am_ju, .int x10, am_ju, am_ju, am_ju, am_ju, am_ju] [] (zl sn sx, xa xm T D r B (xb V L F R S P), M, q) c18 (fun _ _ => rfl) ?_
      rcases am_if hM with ⟨c19, hM⟩ | ⟨c19, hM⟩
      · refine am_ev.kt 4 94 89 [.ref 142, .int x1, .int (5 : Int32), .ref 140, .int x4, .long l5, am_ju, .int x7, .long l8, am_ju, .int x10, am_ju, am_ju, am_ju, am_ju, am_ju] [] (zl sn sx, xa xm T D r B (xb V L F R S P), M, q) c19 (fun _ _ => rfl) ?_
        refine am_ev.kg 1 (pc' := 96) (lv' := [.ref 142, .int x1, .int (5 : Int32), .ref 140, .int x4, .long l5, am_ju, .int x7, .long l8, am_ju, .int x10, am_ju, am_ju, am_ju, am_ju, am_ju]) (st' := [.long l5]) (h' := (zl sn sx, xa xm T D r B (xb V L F R S P), M, q)) (fun _ _ => rfl) ?_
        refine am_ev.wk (lv' := [.ref 142, .int x1, .int (5 : Int32), .ref 140, .int x4, .long l5, am_ju, .int x7, am_ju, am_ju, .int x10, am_ju, am_ju, am_ju, am_ju, am_ju]) (am_lc (Or.inr rfl) (am_lc (Or.inr rfl) (am_lc (Or.inr rfl) (am_lc (Or.inr rfl) (am_lc (Or.inr rfl) (am_lc (Or.inr rfl) (am_lc (Or.inr rfl) (am_lc (Or.inr rfl) (am_lc (Or.inl rfl) (am_lc (Or.inr rfl) (am_lc (Or.inr rfl) (am_lc (Or.inr rfl) (am_lc (Or.inr rfl) (am_lc (Or.inr rfl) (am_lc (Or.inr rfl) (am_lc (Or.inr rfl) am_ln)))))))))))))))) ?_
        exact sj_Solver_refutation_p5_96 hx hg hM
      · refine am_ev.ke 4 94 89 [.ref 142, .int x1, .int (5 : Int32), .ref 140, .int x4, .long l5, am_ju, .int x7, .long l8, am_ju, .int x10, am_ju, am_ju, am_ju, am_ju, am_ju] [] (zl sn sx, xa xm T D r B (xb V L F R S P), M, q) c19 (fun _ _ => rfl) ?_
        refine am_ev.kg 2 (pc' := 96) (lv' := [.ref 142, .int x1, .int (5 : Int32), .ref 140, .int x4, .long l5, am_ju, .int x7, .long l8, am_ju, .int x10, am_ju, am_ju, am_ju, am_ju, am_ju]) (st' := [.long l8]) (h' := (zl sn sx, xa xm T D r B (xb V L F R S P), M, q)) (fun _ _ => rfl) ?_
        refine am_ev.wk (lv' := [.ref 142, .int x1, .int (5 : Int32), .ref 140, .int x4, .long l5, am_ju, .int x7, am_ju, am_ju, .int x10, am_ju, am_ju, am_ju, am_ju, am_ju]) (am_lc (Or.inr rfl) (am_lc (Or.inr rfl) (am_lc (Or.inr rfl) (am_lc (Or.inr rfl) (am_lc (Or.inr rfl) (am_lc (Or.inr rfl) (am_lc (Or.inr rfl) (am_lc (Or.inr rfl) (am_lc (Or.inl rfl) (am_lc (Or.inr rfl) (am_lc (Or.inr rfl) (am_lc (Or.inr rfl) (am_lc (Or.inr rfl) (am_lc (Or.inr rfl) (am_lc (Or.inr rfl) (am_lc (Or.inr rfl) am_ln)))))))))))))))) ?_
        exact sj_Solver_refutation_p5_96 hx hg hM
theorem sl_Solver_refutation_p5_68 {fu : Nat} {dd : Nat} {sn : Nat} {sx : Nat → Int32} {M : List am_C} {q : Nat × Nat} {T : TxT} {D : BdT} {r : RdT} {L : RwT} {F : RwT} {P : HeT} {x1 : Int32} {x7 : Int32} {oo : am_O} {e : (Int32 × BdT × MvT × (Nat → RwT) × SoT) ⊕ (Int32 × BdT × MvT × (Nat → RwT) × SoT)} (hx : x_Solver_refutation_p5_68 sn sx M q T D r L F P x1 x7 oo e) : ∀ (n : Nat) (x4 : Int32) (l5 : Int64) (l8 : Int64) (x10 : Int32) (B : BdT) (V : MvT) (R : Nat → RwT) (S : SoT), l_Solver_refutation_68 fu (g_Solver fu dd).1 (g_Solver fu dd).2 x1 (5 : Int32) x7 n x4 l5 l8 x10 B V R S = some e → am_ev 6 k_Solver_refutation (68, [.ref 142, .int x1, .int (5 : Int32), .ref 140, .int x4, .long l5, am_ju, .int x7, .long l8, am_ju, .int x10, am_ju, am_ju, am_ju, am_ju, am_ju], [], (zl sn sx, xa xm T D r B (xb V L F R S P), M, q)) oo
  | 0, _, _, _, _, _, _, _, _, hM => by have h : (none : Option ((Int32 × BdT × MvT × (Nat → RwT) × SoT) ⊕ (Int32 × BdT × MvT × (Nat → RwT) × SoT))) = some e := hM; cases h
  | n + 1, _, _, _, _, _, _, _, _, hM => sb_Solver_refutation_p5_68 hx (fun _ _ _ _ _ _ _ _ hM => sl_Solver_refutation_p5_68 hx n _ _ _ _ _ _ _ _ hM) hM
theorem sj_Solver_refutation_p5_63 {fu : Nat} {dd : Nat} {sn : Nat} {sx : Nat → Int32} {M : List am_C} {q : Nat × Nat} {T : TxT} {D : BdT} {r : RdT} {B : BdT} {V : MvT} {L : RwT} {F : RwT} {R : Nat → RwT} {S : SoT} {P : HeT} {x1 : Int32} {x4 : Int32} {l5 : Int64} {x7 : Int32} {t0 : Int64} {oo : am_O} {e : Int32 × BdT × MvT × (Nat → RwT) × SoT} (hx : y_Solver_refutation_p5 sn sx M q T D r L F P oo e) (hM : j_Solver_refutation_63 fu (g_Solver fu dd).1 (g_Solver fu dd).2 B V R S x1 (5 : Int32) x4 l5 x7 t0 = some e) : am_ev 6 k_Solver_refutation (63, [.ref 142, .int x1, .int (5 : Int32), .ref 140, .int x4, .long l5, am_ju, .int x7, am_ju, am_ju, am_ju, am_ju, am_ju, am_ju, am_ju, am_ju], [.long t0], (zl sn sx, xa xm T D r B (xb V L F R S P), M, q)) oo := by
  unfold j_Solver_refutation_63 at hM
  refine am_ev.kg 3 (pc' := 68) (lv' := [.ref 142, .int x1, .int (5 : Int32), .ref 140, .int x4, .long l5, am_ju, .int x7, .long t0, am_ju, .int (0 : Int32), am_ju, am_ju, am_ju, am_ju, am_ju]) (st' := []) (h' := (zl sn sx, xa xm T D r B (xb V L F R S P), M, q)) (fun _ _ => rfl) ?_
  obtain ⟨z, hz, hM⟩ := am_bind hM
  rcases z with z | z
  ·
    obtain ⟨x13_3, bz_3, vz_3, rz_3, sz_3⟩ := z
    refine sl_Solver_refutation_p5_68 ?_ _ _ _ _ _ _ _ _ _ hz
    show am_ev 6 k_Solver_refutation (236, [.ref 142, am_ju, .int (5 : Int32), am_ju, am_ju, am_ju, am_ju, am_ju, am_ju, am_ju, am_ju, am_ju, am_ju, .int x13_3, am_ju, am_ju], [], (zl sn sx, xa xm T D r bz_3 (xb vz_3 L F rz_3 sz_3 P), M, q)) oo
    exact sj_Solver_refutation_p5_236 hx hM
  ·
    obtain ⟨x4_4, bz_4, vz_4, rz_4, sz_4⟩ := z
    refine sl_Solver_refutation_p5_68 ?_ _ _ _ _ _ _ _ _ _ hz
    show am_ev 6 k_Solver_refutation (276, [.ref 142, am_ju, am_ju, am_ju, .int x4_4, am_ju, am_ju, am_ju, am_ju, am_ju, am_ju, am_ju, am_ju, am_ju, am_ju, am_ju], [], (zl sn sx, xa xm T D r bz_4 (xb vz_4 L F rz_4 sz_4 P), M, q)) oo
    exact sj_Solver_refutation_p5_276 hx hM
theorem se_Solver_refutation_p5 {fu : Nat} {dd : Nat} {sn : Nat} {sx : Nat → Int32} {M : List am_C} {q : Nat × Nat} {T : TxT} {D : BdT} {r : RdT} {B : BdT} {V : MvT} {L : RwT} {F : RwT} {R : Nat → RwT} {S : SoT} {P : HeT} {x1 : Int32} {oo : am_O} {e : Int32 × BdT × MvT × (Nat → RwT) × SoT} (hx : y_Solver_refutation_p5 sn sx M q T D r L F P oo e) (hM : e_Solver_refutation fu (g_Solver fu dd).1 (g_Solver fu dd).2 x1 (5 : Int32) B V R S = some e) : am_ev 6 k_Solver_refutation (0, [.ref 142, .int x1, .int (5 : Int32), am_ju, am_ju, am_ju, am_ju, am_ju, am_ju, am_ju, am_ju, am_ju, am_ju, am_ju, am_ju, am_ju], [], (zl sn sx, xa xm T D r B (xb V L F R S P), M, q)) oo := by
  unfold e_Solver_refutation at hM
  rcases am_if hM with ⟨c20, hM⟩ | ⟨c20, hM⟩
  · refine am_ev.kt 3 9 6 [.ref 142, .int x1, .int (5 : Int32), am_ju, am_ju, am_ju, am_ju, am_ju, am_ju, am_ju, am_ju, am_ju, am_ju, am_ju, am_ju, am_ju] [] (zl sn sx, xa xm T D r B (xb V L F R S P), M, q) c20 (fun _ _ => rfl) ?_
    obtain ⟨c21, hM⟩ := am_ifn hM
    refine am_ev.kc 4 15 [.ref 142, .int x1, .int (5 : Int32), am_ju, am_ju, am_ju, am_ju, am_ju, am_ju, am_ju, am_ju, am_ju, am_ju, am_ju, am_ju, am_ju] [.ref 140] (zl sn sx, xa xm T D r B (xb V L F R S P), M, q) c21 (fun _ _ => rfl) ?_
    obtain ⟨c22, hM⟩ := am_ifn hM
    refine am_ev.kc 10 34 [.ref 142, .int x1, .int (5 : Int32), .ref 140, .int (0 : Int32), am_ju, am_ju, am_ju, am_ju, am_ju, am_ju, am_ju, am_ju, am_ju, am_ju, am_ju] [.long ((bd_held B) ((bd_side B)).toNatClampNeg)] (zl sn sx, xa xm T D r B (xb V L F R S P), M, q) c22 (fun _ _ => rfl) ?_
    obtain ⟨c23, hM⟩ := am_ifn hM
    refine am_ev.kc 5 42 [.ref 142, .int x1, .int (5 : Int32), .ref 140, .int (0 : Int32), .long ((bd_held B) ((bd_side B)).toNatClampNeg), am_ju, am_ju, am_ju, am_ju, am_ju, am_ju, am_ju, am_ju, am_ju, am_ju] [.int ((so_hints S) ((5 : Int32)).toNatClampNeg)] (zl sn sx, xa xm T D r B (xb V L F R S P), M, q) c23 (fun _ _ => rfl) ?_
    rcases am_if hM with ⟨c24, hM⟩ | ⟨c24, hM⟩
    · refine am_ev.kt 3 62 49 [.ref 142, .int x1, .int (5 : Int32), .ref 140, .int (0 : Int32), .long ((bd_held B) ((bd_side B)).toNatClampNeg), am_ju, .int ((so_hints S) ((5 : Int32)).toNatClampNeg), am_ju, am_ju, am_ju, am_ju, am_ju, am_ju, am_ju, am_ju] [] (zl sn sx, xa xm T D r B (xb V L F R S P), M, q) c24 (fun _ _ => rfl) ?_
      refine am_ev.kg 1 (pc' := 63) (lv' := [.ref 142, .int x1, .int (5 : Int32), .ref 140, .int (0 : Int32), .long ((bd_held B) ((bd_side B)).toNatClampNeg), am_ju, .int ((so_hints S) ((5 : Int32)).toNatClampNeg), am_ju, am_ju, am_ju, am_ju, am_ju, am_ju, am_ju, am_ju]) (st' := [.long (0 : Int64)]) (h' := (zl sn sx, xa xm T D r B (xb V L F R S P), M, q)) (fun _ _ => rfl) ?_
      exact sj_Solver_refutation_p5_63 hx hM
    · refine am_ev.ke 3 62 49 [.ref 142, .int x1, .int (5 : Int32), .ref 140, .int (0 : Int32), .long ((bd_held B) ((bd_side B)).toNatClampNeg), am_ju, .int ((so_hints S) ((5 : Int32)).toNatClampNeg), am_ju, am_ju, am_ju, am_ju, am_ju, am_ju, am_ju, am_ju] [] (zl sn sx, xa xm T D r B (xb V L F R S P), M, q) c24 (fun _ _ => rfl) ?_
      refine am_ev.kg 8 (pc' := 63) (lv' := [.ref 142, .int x1, .int (5 : Int32), .ref 140, .int (0 : Int32), .long ((bd_held B) ((bd_side B)).toNatClampNeg), am_ju, .int ((so_hints S) ((5 : Int32)).toNatClampNeg), am_ju, am_ju, am_ju, am_ju, am_ju, am_ju, am_ju, am_ju]) (st' := [.long (((bd_held B) ((bd_side B)).toNatClampNeg) &&& (am_shl (1 : Int64) (((so_hints S) ((5 : Int32)).toNatClampNeg) &&& (63 : Int32))))]) (h' := (zl sn sx, xa xm T D r B (xb V L F R S P), M, q)) (fun _ _ => rfl) ?_
      exact sj_Solver_refutation_p5_63 hx hM
  · exact absurd c20 (by decide)
theorem s_Solver_refutation_p5 {fu : Nat} {dd : Nat} {sn : Nat} {sx : Nat → Int32} {M : List am_C} {q : Nat × Nat} {T : TxT} {D : BdT} {r : RdT} {B : BdT} {V : MvT} {L : RwT} {F : RwT} {R : Nat → RwT} {S : SoT} {P : HeT} {x1 : Int32} {ov : Int32} {oB : BdT} {oV : MvT} {oR : Nat → RwT} {oS : SoT} (hM : (g_Solver fu dd).2 x1 (5 : Int32) B V R S = some (ov, oB, oV, oR, oS)) : am_cv 7 k_Solver_refutation [.ref 142, .int x1, .int (5 : Int32)] (zl sn sx, xa xm T D r B (xb V L F R S P), M, q) (.inl (some (.int ov)), (zl sn sx, xa xm T D r oB (xb oV L F oR oS P), M, q)) := by
  cases dd with
  | zero => have h : (none : Option (Int32 × BdT × MvT × (Nat → RwT) × SoT)) = some (ov, oB, oV, oR, oS) := hM; cases h
  | succ dd => exact am_cv.of rfl (se_Solver_refutation_p5 (e := (ov, oB, oV, oR, oS)) (show y_Solver_refutation_p5 sn sx M q T D r L F P _ (ov, oB, oV, oR, oS) from rfl) (show e_Solver_refutation fu (g_Solver fu dd).1 (g_Solver fu dd).2 x1 (5 : Int32) B V R S = some (ov, oB, oV, oR, oS) from hM))
def y_MoveRow_bringFirst_R4 (sn : Nat) (sx : Nat → Int32) (M : List am_C) (q : Nat × Nat) (T : TxT) (D : BdT) (r : RdT) (B : BdT) (V : MvT) (L : RwT) (F : RwT) (R : Nat → RwT) (S : SoT) (P : HeT) (oo : am_O) : RwT → Prop
  | ow => oo = (.inl none, (zl sn sx, xa xm T D r B (xb V L F (va_up R ((4 : Int32)).toNatClampNeg ow) S P), M, q))
def x_MoveRow_bringFirst_R4_2 (sn : Nat) (sx : Nat → Int32) (M : List am_C) (q : Nat × Nat) (T : TxT) (D : BdT) (r : RdT) (B : BdT) (V : MvT) (L : RwT) (F : RwT) (R : Nat → RwT) (S : SoT) (P : HeT) (w : RwT) (x1 : Int32) (oo : am_O) : ((Int32)) ⊕ (RwT) → Prop
  | (.inl x2) => am_ev 1 k_MoveRow_bringFirst (20, [.ref 138, .int x1, .int x2], [], (zl sn sx, xa xm T D r B (xb V L F (va_up R ((4 : Int32)).toNatClampNeg w) S P), M, q)) oo
  | .inr ow => oo = (.inl none, (zl sn sx, xa xm T D r B (xb V L F (va_up R ((4 : Int32)).toNatClampNeg ow) S P), M, q))
theorem sb_MoveRow_bringFirst_R4_2 {fu : Nat} {sn : Nat} {sx : Nat → Int32} {M : List am_C} {q : Nat × Nat} {T : TxT} {D : BdT} {r : RdT} {B : BdT} {V : MvT} {L : RwT} {F : RwT} {R : Nat → RwT} {S : SoT} {P : HeT} {w : RwT} {x1 : Int32} {oo : am_O} {e : ((Int32)) ⊕ (RwT)} {gg : Int32 → Option (((Int32)) ⊕ (RwT))} (hx : x_MoveRow_bringFirst_R4_2 sn sx M q T D r B V L F R S P w x1 oo e) (hg : ∀ (x2 : Int32), gg x2 = some e → am_ev 1 k_MoveRow_bringFirst (2, [.ref 138, .int x1, .int x2], [], (zl sn sx, xa xm T D r B (xb V L F (va_up R ((4 : Int32)).toNatClampNeg w) S P), M, q)) oo) {x2 : Int32} (hM : b_MoveRow_bringFirst_2 fu w x1 gg x2 = some e) : am_ev 1 k_MoveRow_bringFirst (2, [.ref 138, .int x1, .int x2], [], (zl sn sx, xa xm T D r B (xb V L F (va_up R ((4 : Int32)).toNatClampNeg w) S P), M, q)) oo := by
  unfold b_MoveRow_bringFirst_2 at hM
  rcases am_if hM with ⟨c1, hM⟩ | ⟨c1, hM⟩
  · refine am_ev.kt 4 46 10 [.ref 138, .int x1, .int x2] [] (zl sn sx, xa xm T D r B (xb V L F (va_up R ((4 : Int32)).toNatClampNeg w) S P), M, q) c1 (fun _ _ => rfl) ?_
    cases hM
    cases hx
    exact am_ev.kf 1 (fun _ _ => rfl)
  · refine am_ev.ke 4 46 10 [.ref 138, .int x1, .int x2] [] (zl sn sx, xa xm T D r B (xb V L F (va_up R ((4 : Int32)).toNatClampNeg w) S P), M, q) c1 (fun _ _ => rfl) ?_
    obtain ⟨c2, hM⟩ := am_ifn hM
    refine am_ev.kc 4 16 [.ref 138, .int x1, .int x2] [.int ((rw_told w) (x2).toNatClampNeg)] (zl sn sx, xa xm T D r B (xb V L F (va_up R ((4 : Int32)).toNatClampNeg w) S P), M, q) c2 (fun _ _ => rfl) ?_
    rcases am_if hM with ⟨c3, hM⟩ | ⟨c3, hM⟩
    · refine am_ev.kt 2 40 20 [.ref 138, .int x1, .int x2] [] (zl sn sx, xa xm T D r B (xb V L F (va_up R ((4 : Int32)).toNatClampNeg w) S P), M, q) c3 (fun _ _ => rfl) ?_
      refine am_ev.kg 2 (pc' := 2) (lv' := [.ref 138, .int x1, .int (x2 + (1 : Int32))]) (st' := []) (h' := (zl sn sx, xa xm T D r B (xb V L F (va_up R ((4 : Int32)).toNatClampNeg w) S P), M, q)) (fun _ _ => rfl) ?_
      exact hg _ hM
    · refine am_ev.ke 2 40 20 [.ref 138, .int x1, .int x2] [] (zl sn sx, xa xm T D r B (xb V L F (va_up R ((4 : Int32)).toNatClampNeg w) S P), M, q) c3 (fun _ _ => rfl) ?_
      cases hM
      exact hx
theorem sl_MoveRow_bringFirst_R4_2 {fu : Nat} {sn : Nat} {sx : Nat → Int32} {M : List am_C} {q : Nat × Nat} {T : TxT} {D : BdT} {r : RdT} {B : BdT} {V : MvT} {L : RwT} {F : RwT} {R : Nat → RwT} {S : SoT} {P : HeT} {w : RwT} {x1 : Int32} {oo : am_O} {e : ((Int32)) ⊕ (RwT)} (hx : x_MoveRow_bringFirst_R4_2 sn sx M q T D r B V L F R S P w x1 oo e) : ∀ (n : Nat) (x2 : Int32), l_MoveRow_bringFirst_2 fu w x1 n x2 = some e → am_ev 1 k_MoveRow_bringFirst (2, [.ref 138, .int x1, .int x2], [], (zl sn sx, xa xm T D r B (xb V L F (va_up R ((4 : Int32)).toNatClampNeg w) S P), M, q)) oo
  | 0, _, hM => by have h : (none : Option (((Int32)) ⊕ (RwT))) = some e := hM; cases h
  | n + 1, _, hM => sb_MoveRow_bringFirst_R4_2 hx (fun _ hM => sl_MoveRow_bringFirst_R4_2 hx n _ hM) hM
theorem sj_MoveRow_bringFirst_R4_20 {fu : Nat} {sn : Nat} {sx : Nat → Int32} {M : List am_C} {q : Nat × Nat} {T : TxT} {D : BdT} {r : RdT} {B : BdT} {V : MvT} {L : RwT} {F : RwT} {R : Nat → RwT} {S : SoT} {P : HeT} {w : RwT} {x1 : Int32} {x2 : Int32} {oo : am_O} {e : RwT} (hx : y_MoveRow_bringFirst_R4 sn sx M q T D r B V L F R S P oo e) (hM : j_MoveRow_bringFirst_20 fu w x1 x2 = some e) : am_ev 1 k_MoveRow_bringFirst (20, [.ref 138, .int x1, .int x2], [], (zl sn sx, xa xm T D r B (xb V L F (va_up R ((4 : Int32)).toNatClampNeg w) S P), M, q)) oo := by
  unfold j_MoveRow_bringFirst_20 at hM
  obtain ⟨c4, hM⟩ := am_ifn hM
  refine am_ev.kc 7 31 [.ref 138, .int x1, .int x2] [.int ((rw_told w) ((0 : Int32)).toNatClampNeg), .int x2, .ref 139] (zl sn sx, xa xm T D r B (xb V L F (va_up R ((4 : Int32)).toNatClampNeg w) S P), M, q) c4 (fun _ _ => rfl) ?_
  obtain ⟨c5, hM⟩ := am_ifn hM
  refine am_ev.kc 1 32 [.ref 138, .int x1, .int x2] [] (zl sn sx, xa xm T D r B (xb V L F (va_up R ((4 : Int32)).toNatClampNeg ((upd (rw_told w) (x2).toNatClampNeg ((rw_told w) ((0 : Int32)).toNatClampNeg)), (rw_count w))) S P), M, q) c5 (fun _ _ => rfl) ?_
  obtain ⟨c6, hM⟩ := am_ifn hM
  refine am_ev.kc 5 39 [.ref 138, .int x1, .int x2] [] (zl sn sx, xa xm T D r B (xb V L F (va_up R ((4 : Int32)).toNatClampNeg ((upd (upd (rw_told w) (x2).toNatClampNeg ((rw_told w) ((0 : Int32)).toNatClampNeg)) ((0 : Int32)).toNatClampNeg x1), (rw_count w))) S P), M, q) c6 (fun _ _ => rfl) ?_
  cases hM
  cases hx
  exact am_ev.kf 1 (fun _ _ => rfl)
theorem se_MoveRow_bringFirst_R4 {fu : Nat} {sn : Nat} {sx : Nat → Int32} {M : List am_C} {q : Nat × Nat} {T : TxT} {D : BdT} {r : RdT} {B : BdT} {V : MvT} {L : RwT} {F : RwT} {R : Nat → RwT} {S : SoT} {P : HeT} {w : RwT} {x1 : Int32} {oo : am_O} {e : RwT} (hx : y_MoveRow_bringFirst_R4 sn sx M q T D r B V L F R S P oo e) (hM : f_MoveRow_bringFirst fu x1 w = some e) : am_ev 1 k_MoveRow_bringFirst (0, [.ref 138, .int x1, am_ju], [], (zl sn sx, xa xm T D r B (xb V L F (va_up R ((4 : Int32)).toNatClampNeg w) S P), M, q)) oo := by
  unfold f_MoveRow_bringFirst at hM
  refine am_ev.kg 2 (pc' := 2) (lv' := [.ref 138, .int x1, .int (1 : Int32)]) (st' := []) (h' := (zl sn sx, xa xm T D r B (xb V L F (va_up R ((4 : Int32)).toNatClampNeg w) S P), M, q)) (fun _ _ => rfl) ?_
  obtain ⟨z, hz, hM⟩ := am_bind hM
  rcases z with z | z
  ·
    obtain ⟨x2_1, rfl⟩ : ∃ y, y = z := ⟨_, rfl⟩
    refine sl_MoveRow_bringFirst_R4_2 ?_ _ _ hz
    show am_ev 1 k_MoveRow_bringFirst (20, [.ref 138, .int x1, .int x2_1], [], (zl sn sx, xa xm T D r B (xb V L F (va_up R ((4 : Int32)).toNatClampNeg w) S P), M, q)) oo
    exact sj_MoveRow_bringFirst_R4_20 hx hM
  ·
    cases hM
    refine sl_MoveRow_bringFirst_R4_2 ?_ _ _ hz
    exact hx
theorem s_MoveRow_bringFirst_R4 {fu : Nat} {sn : Nat} {sx : Nat → Int32} {M : List am_C} {q : Nat × Nat} {T : TxT} {D : BdT} {r : RdT} {B : BdT} {V : MvT} {L : RwT} {F : RwT} {R : Nat → RwT} {S : SoT} {P : HeT} {w : RwT} {x1 : Int32} {ow : RwT} (hM : f_MoveRow_bringFirst fu x1 w = some ow) : am_cv 2 k_MoveRow_bringFirst [.ref 138, .int x1] (zl sn sx, xa xm T D r B (xb V L F (va_up R ((4 : Int32)).toNatClampNeg w) S P), M, q) (.inl none, (zl sn sx, xa xm T D r B (xb V L F (va_up R ((4 : Int32)).toNatClampNeg ow) S P), M, q)) := am_cv.of rfl (se_MoveRow_bringFirst_R4 (e := ow) (show y_MoveRow_bringFirst_R4 sn sx M q T D r B V L F R S P _ ow from rfl) hM)
theorem s_MoveRow_bringFirst_R4x {fu : Nat} {sn : Nat} {sx : Nat → Int32} {M : List am_C} {q : Nat × Nat} {T : TxT} {D : BdT} {r : RdT} {B : BdT} {V : MvT} {L : RwT} {F : RwT} {R : Nat → RwT} {S : SoT} {P : HeT} {x1 : Int32} {ow : RwT} (hM : f_MoveRow_bringFirst fu x1 (R ((4 : Int32)).toNatClampNeg) = some ow) : am_cv 2 k_MoveRow_bringFirst [.ref 138, .int x1] (zl sn sx, xa xm T D r B (xb V L F R S P), M, q) (.inl none, (zl sn sx, xa xm T D r B (xb V L F (va_up R ((4 : Int32)).toNatClampNeg ow) S P), M, q)) := by
  have h := s_MoveRow_bringFirst_R4 (sn := sn) (sx := sx) (M := M) (q := q) (R := R) (w := R ((4 : Int32)).toNatClampNeg) (T := T) (D := D) (r := r) (B := B) (V := V) (L := L) (F := F) (S := S) (P := P) hM
  rw [am_ups] at h
  exact h
def y_MoveRow_add_R4 (sn : Nat) (sx : Nat → Int32) (M : List am_C) (q : Nat × Nat) (T : TxT) (D : BdT) (r : RdT) (B : BdT) (V : MvT) (L : RwT) (F : RwT) (R : Nat → RwT) (S : SoT) (P : HeT) (oo : am_O) : RwT → Prop
  | ow => oo = (.inl none, (zl sn sx, xa xm T D r B (xb V L F (va_up R ((4 : Int32)).toNatClampNeg ow) S P), M, q))
theorem se_MoveRow_add_R4 {sn : Nat} {sx : Nat → Int32} {M : List am_C} {q : Nat × Nat} {T : TxT} {D : BdT} {r : RdT} {B : BdT} {V : MvT} {L : RwT} {F : RwT} {R : Nat → RwT} {S : SoT} {P : HeT} {w : RwT} {x1 : Int32} {oo : am_O} {e : RwT} (hx : y_MoveRow_add_R4 sn sx M q T D r B V L F R S P oo e) (hM : f_MoveRow_add x1 w = some e) : am_ev 1 k_MoveRow_add (0, [.ref 138, .int x1], [], (zl sn sx, xa xm T D r B (xb V L F (va_up R ((4 : Int32)).toNatClampNeg w) S P), M, q)) oo := by
  unfold f_MoveRow_add at hM
  rcases am_if hM with ⟨c1, hM⟩ | ⟨c1, hM⟩
  · refine am_ev.kt 4 30 10 [.ref 138, .int x1] [] (zl sn sx, xa xm T D r B (xb V L F (va_up R ((4 : Int32)).toNatClampNeg w) S P), M, q) c1 (fun _ _ => rfl) ?_
    cases hM
    cases hx
    exact am_ev.kf 1 (fun _ _ => rfl)
  · refine am_ev.ke 4 30 10 [.ref 138, .int x1] [] (zl sn sx, xa xm T D r B (xb V L F (va_up R ((4 : Int32)).toNatClampNeg w) S P), M, q) c1 (fun _ _ => rfl) ?_
    obtain ⟨c2, hM⟩ := am_ifn hM
    refine am_ev.kc 6 20 [.ref 138, .int x1] [] (zl sn sx, xa xm T D r B (xb V L F (va_up R ((4 : Int32)).toNatClampNeg ((upd (rw_told w) ((rw_count w)).toNatClampNeg x1), (rw_count w))) S P), M, q) c2 (fun _ _ => rfl) ?_
    cases hM
    cases hx
    exact am_ev.kf 7 (fun _ _ => rfl)
theorem s_MoveRow_add_R4 {sn : Nat} {sx : Nat → Int32} {M : List am_C} {q : Nat × Nat} {T : TxT} {D : BdT} {r : RdT} {B : BdT} {V : MvT} {L : RwT} {F : RwT} {R : Nat → RwT} {S : SoT} {P : HeT} {w : RwT} {x1 : Int32} {ow : RwT} (hM : f_MoveRow_add x1 w = some ow) : am_cv 2 k_MoveRow_add [.ref 138, .int x1] (zl sn sx, xa xm T D r B (xb V L F (va_up R ((4 : Int32)).toNatClampNeg w) S P), M, q) (.inl none, (zl sn sx, xa xm T D r B (xb V L F (va_up R ((4 : Int32)).toNatClampNeg ow) S P), M, q)) := am_cv.of rfl (se_MoveRow_add_R4 (e := ow) (show y_MoveRow_add_R4 sn sx M q T D r B V L F R S P _ ow from rfl) hM)
theorem s_MoveRow_add_R4x {sn : Nat} {sx : Nat → Int32} {M : List am_C} {q : Nat × Nat} {T : TxT} {D : BdT} {r : RdT} {B : BdT} {V : MvT} {L : RwT} {F : RwT} {R : Nat → RwT} {S : SoT} {P : HeT} {x1 : Int32} {ow : RwT} (hM : f_MoveRow_add x1 (R ((4 : Int32)).toNatClampNeg) = some ow) : am_cv 2 k_MoveRow_add [.ref 138, .int x1] (zl sn sx, xa xm T D r B (xb V L F R S P), M, q) (.inl none, (zl sn sx, xa xm T D r B (xb V L F (va_up R ((4 : Int32)).toNatClampNeg ow) S P), M, q)) := by
  have h := s_MoveRow_add_R4 (sn := sn) (sx := sx) (M := M) (q := q) (R := R) (w := R ((4 : Int32)).toNatClampNeg) (T := T) (D := D) (r := r) (B := B) (V := V) (L := L) (F := F) (S := S) (P := P) hM
  rw [am_ups] at h
  exact h
def y_MoveRow_addAll_R4 (sn : Nat) (sx : Nat → Int32) (M : List am_C) (q : Nat × Nat) (T : TxT) (D : BdT) (r : RdT) (B : BdT) (V : MvT) (L : RwT) (F : RwT) (R : Nat → RwT) (S : SoT) (P : HeT) (oo : am_O) : RwT → Prop
  | ow => oo = (.inl none, (zl sn sx, xa xm T D r B (xb V L F (va_up R ((4 : Int32)).toNatClampNeg ow) S P), M, q))
def x_MoveRow_addAll_R4_77 (sn : Nat) (sx : Nat → Int32) (M : List am_C) (q : Nat × Nat) (T : TxT) (D : BdT) (r : RdT) (B : BdT) (V : MvT) (L : RwT) (F : RwT) (R : Nat → RwT) (S : SoT) (P : HeT) (x1 : Int32) (x4 : Int32) (l5 : Int64) (x7 : Int32) (x10 : Int32) (oo : am_O) : (RwT) → Prop
  | w => am_ev 2 k_MoveRow_addAll (102, [.ref 138, .int x1, am_ju, am_ju, .int x4, .long l5, am_ju, .int x7, am_ju, am_ju, am_ju, am_ju], [], (zl sn sx, xa xm T D r B (xb V L F (va_up R ((4 : Int32)).toNatClampNeg w) S P), M, q)) oo
def x_MoveRow_addAll_R4_6 (sn : Nat) (sx : Nat → Int32) (M : List am_C) (q : Nat × Nat) (T : TxT) (D : BdT) (r : RdT) (B : BdT) (V : MvT) (L : RwT) (F : RwT) (R : Nat → RwT) (S : SoT) (P : HeT) (x1 : Int32) (x4 : Int32) (oo : am_O) : RwT → Prop
  | ow => oo = (.inl none, (zl sn sx, xa xm T D r B (xb V L F (va_up R ((4 : Int32)).toNatClampNeg ow) S P), M, q))
theorem sb_MoveRow_addAll_R4_77 {fu : Nat} {sn : Nat} {sx : Nat → Int32} {M : List am_C} {q : Nat × Nat} {T : TxT} {D : BdT} {r : RdT} {B : BdT} {V : MvT} {L : RwT} {F : RwT} {R : Nat → RwT} {S : SoT} {P : HeT} {x1 : Int32} {x4 : Int32} {l5 : Int64} {x7 : Int32} {x10 : Int32} {oo : am_O} {e : (RwT)} {gg : Int32 → RwT → Option ((RwT))} (hx : x_MoveRow_addAll_R4_77 sn sx M q T D r B V L F R S P x1 x4 l5 x7 x10 oo e) (hg : ∀ (x11 : Int32) (w : RwT), gg x11 w = some e → am_ev 2 k_MoveRow_addAll (77, [.ref 138, .int x1, am_ju, am_ju, .int x4, .long l5, am_ju, .int x7, am_ju, am_ju, .int x10, .int x11], [], (zl sn sx, xa xm T D r B (xb V L F (va_up R ((4 : Int32)).toNatClampNeg w) S P), M, q)) oo) {x11 : Int32} {w : RwT} (hM : b_MoveRow_addAll_77 fu x1 x4 l5 x7 x10 gg x11 w = some e) : am_ev 2 k_MoveRow_addAll (77, [.ref 138, .int x1, am_ju, am_ju, .int x4, .long l5, am_ju, .int x7, am_ju, am_ju, .int x10, .int x11], [], (zl sn sx, xa xm T D r B (xb V L F (va_up R ((4 : Int32)).toNatClampNeg w) S P), M, q)) oo := by
  unfold b_MoveRow_addAll_77 at hM
  rcases am_if hM with ⟨c1, hM⟩ | ⟨c1, hM⟩
  · refine am_ev.kt 3 102 83 [.ref 138, .int x1, am_ju, am_ju, .int x4, .long l5, am_ju, .int x7, am_ju, am_ju, .int x10, .int x11] [] (zl sn sx, xa xm T D r B (xb V L F (va_up R ((4 : Int32)).toNatClampNeg w) S P), M, q) c1 (fun _ _ => rfl) ?_
    refine am_ev.wk (lv' := [.ref 138, .int x1, am_ju, am_ju, .int x4, .long l5, am_ju, .int x7, am_ju, am_ju, am_ju, am_ju]) (am_lc (Or.inr rfl) (am_lc (Or.inr rfl) (am_lc (Or.inr rfl) (am_lc (Or.inr rfl) (am_lc (Or.inr rfl) (am_lc (Or.inr rfl) (am_lc (Or.inr rfl) (am_lc (Or.inr rfl) (am_lc (Or.inr rfl) (am_lc (Or.inr rfl) (am_lc (Or.inl rfl) (am_lc (Or.inl rfl) am_ln)))))))))))) ?_
    cases hM
    exact hx
  · refine am_ev.ke 3 102 83 [.ref 138, .int x1, am_ju, am_ju, .int x4, .long l5, am_ju, .int x7, am_ju, am_ju, .int x10, .int x11] [] (zl sn sx, xa xm T D r B (xb V L F (va_up R ((4 : Int32)).toNatClampNeg w) S P), M, q) c1 (fun _ _ => rfl) ?_
    obtain ⟨rr, hc, hM⟩ := am_bind hM
    obtain ⟨wg3, rfl⟩ : ∃ z, z = rr := ⟨_, rfl⟩
    refine am_ev.kg 6 (pc' := 93) (lv' := [.ref 138, .int x1, am_ju, am_ju, .int x4, .long l5, am_ju, .int x7, am_ju, am_ju, .int x10, .int x11]) (st' := [.int (x10 + ((4096 : Int32) * x11)), .ref 138]) (h' := (zl sn sx, xa xm T D r B (xb V L F (va_up R ((4 : Int32)).toNatClampNeg w) S P), M, q)) (fun _ _ => rfl) ?_
    refine am_ev.call rfl rfl rfl ((s_MoveRow_add_R4 hc).mono (by decide)) ?_
    show am_ev _ k_MoveRow_addAll (96, [.ref 138, .int x1, am_ju, am_ju, .int x4, .long l5, am_ju, .int x7, am_ju, am_ju, .int x10, .int x11], [], (zl sn sx, xa xm T D r B (xb V L F (va_up R ((4 : Int32)).toNatClampNeg wg3) S P), M, q)) oo
    refine am_ev.kg 2 (pc' := 77) (lv' := [.ref 138, .int x1, am_ju, am_ju, .int x4, .long l5, am_ju, .int x7, am_ju, am_ju, .int x10, .int (x11 + (1 : Int32))]) (st' := []) (h' := (zl sn sx, xa xm T D r B (xb V L F (va_up R ((4 : Int32)).toNatClampNeg wg3) S P), M, q)) (fun _ _ => rfl) ?_
    exact hg _ _ hM
theorem sl_MoveRow_addAll_R4_77 {fu : Nat} {sn : Nat} {sx : Nat → Int32} {M : List am_C} {q : Nat × Nat} {T : TxT} {D : BdT} {r : RdT} {B : BdT} {V : MvT} {L : RwT} {F : RwT} {R : Nat → RwT} {S : SoT} {P : HeT} {x1 : Int32} {x4 : Int32} {l5 : Int64} {x7 : Int32} {x10 : Int32} {oo : am_O} {e : (RwT)} (hx : x_MoveRow_addAll_R4_77 sn sx M q T D r B V L F R S P x1 x4 l5 x7 x10 oo e) : ∀ (n : Nat) (x11 : Int32) (w : RwT), l_MoveRow_addAll_77 fu x1 x4 l5 x7 x10 n x11 w = some e → am_ev 2 k_MoveRow_addAll (77, [.ref 138, .int x1, am_ju, am_ju, .int x4, .long l5, am_ju, .int x7, am_ju, am_ju, .int x10, .int x11], [], (zl sn sx, xa xm T D r B (xb V L F (va_up R ((4 : Int32)).toNatClampNeg w) S P), M, q)) oo
  | 0, _, _, hM => by have h : (none : Option ((RwT))) = some e := hM; cases h
  | n + 1, _, _, hM => sb_MoveRow_addAll_R4_77 hx (fun _ _ hM => sl_MoveRow_addAll_R4_77 hx n _ _ hM) hM
theorem sj_MoveRow_addAll_R4_102 {fu : Nat} {sn : Nat} {sx : Nat → Int32} {M : List am_C} {q : Nat × Nat} {T : TxT} {D : BdT} {r : RdT} {B : BdT} {V : MvT} {L : RwT} {F : RwT} {R : Nat → RwT} {S : SoT} {P : HeT} {w : RwT} {x1 : Int32} {x4 : Int32} {l5 : Int64} {x7 : Int32} {oo : am_O} {e : RwT} {gg : Int64 → Int32 → RwT → Option (RwT)} (hx : x_MoveRow_addAll_R4_6 sn sx M q T D r B V L F R S P x1 x4 oo e) (hg : ∀ (l5 : Int64) (x7 : Int32) (w : RwT), gg l5 x7 w = some e → am_ev 2 k_MoveRow_addAll (6, [.ref 138, .int x1, am_ju, am_ju, .int x4, .long l5, am_ju, .int x7, am_ju, am_ju, am_ju, am_ju], [], (zl sn sx, xa xm T D r B (xb V L F (va_up R ((4 : Int32)).toNatClampNeg w) S P), M, q)) oo) (hM : j_MoveRow_addAll_102 fu gg w x1 x4 l5 x7 = some e) : am_ev 2 k_MoveRow_addAll (102, [.ref 138, .int x1, am_ju, am_ju, .int x4, .long l5, am_ju, .int x7, am_ju, am_ju, am_ju, am_ju], [], (zl sn sx, xa xm T D r B (xb V L F (va_up R ((4 : Int32)).toNatClampNeg w) S P), M, q)) oo := by
  unfold j_MoveRow_addAll_102 at hM
  refine am_ev.kg 2 (pc' := 6) (lv' := [.ref 138, .int x1, am_ju, am_ju, .int x4, .long l5, am_ju, .int (x7 + (1 : Int32)), am_ju, am_ju, am_ju, am_ju]) (st' := []) (h' := (zl sn sx, xa xm T D r B (xb V L F (va_up R ((4 : Int32)).toNatClampNeg w) S P), M, q)) (fun _ _ => rfl) ?_
  exact hg _ _ _ hM
theorem sj_MoveRow_addAll_R4_65 {fu : Nat} {sn : Nat} {sx : Nat → Int32} {M : List am_C} {q : Nat × Nat} {T : TxT} {D : BdT} {r : RdT} {B : BdT} {V : MvT} {L : RwT} {F : RwT} {R : Nat → RwT} {S : SoT} {P : HeT} {w : RwT} {x1 : Int32} {x4 : Int32} {l5 : Int64} {x7 : Int32} {x10 : Int32} {oo : am_O} {e : RwT} {gg : Int64 → Int32 → RwT → Option (RwT)} (hx : x_MoveRow_addAll_R4_6 sn sx M q T D r B V L F R S P x1 x4 oo e) (hg : ∀ (l5 : Int64) (x7 : Int32) (w : RwT), gg l5 x7 w = some e → am_ev 2 k_MoveRow_addAll (6, [.ref 138, .int x1, am_ju, am_ju, .int x4, .long l5, am_ju, .int x7, am_ju, am_ju, am_ju, am_ju], [], (zl sn sx, xa xm T D r B (xb V L F (va_up R ((4 : Int32)).toNatClampNeg w) S P), M, q)) oo) (hM : j_MoveRow_addAll_65 fu gg w x1 x4 l5 x7 x10 = some e) : am_ev 2 k_MoveRow_addAll (65, [.ref 138, .int x1, am_ju, am_ju, .int x4, .long l5, am_ju, .int x7, am_ju, am_ju, .int x10, am_ju], [], (zl sn sx, xa xm T D r B (xb V L F (va_up R ((4 : Int32)).toNatClampNeg w) S P), M, q)) oo := by
  unfold j_MoveRow_addAll_65 at hM
  obtain ⟨rr, hc, hM⟩ := am_bind hM
  obtain ⟨wg2, rfl⟩ : ∃ z, z = rr := ⟨_, rfl⟩
  refine am_ev.kg 2 (pc' := 68) (lv' := [.ref 138, .int x1, am_ju, am_ju, .int x4, .long l5, am_ju, .int x7, am_ju, am_ju, .int x10, am_ju]) (st' := [.int x10, .ref 138]) (h' := (zl sn sx, xa xm T D r B (xb V L F (va_up R ((4 : Int32)).toNatClampNeg w) S P), M, q)) (fun _ _ => rfl) ?_
  refine am_ev.call rfl rfl rfl ((s_MoveRow_add_R4 hc).mono (by decide)) ?_
  show am_ev _ k_MoveRow_addAll (71, [.ref 138, .int x1, am_ju, am_ju, .int x4, .long l5, am_ju, .int x7, am_ju, am_ju, .int x10, am_ju], [], (zl sn sx, xa xm T D r B (xb V L F (va_up R ((4 : Int32)).toNatClampNeg wg2) S P), M, q)) oo
  refine am_ev.kg 1 (pc' := 102) (lv' := [.ref 138, .int x1, am_ju, am_ju, .int x4, .long l5, am_ju, .int x7, am_ju, am_ju, .int x10, am_ju]) (st' := []) (h' := (zl sn sx, xa xm T D r B (xb V L F (va_up R ((4 : Int32)).toNatClampNeg wg2) S P), M, q)) (fun _ _ => rfl) ?_
  refine am_ev.wk (lv' := [.ref 138, .int x1, am_ju, am_ju, .int x4, .long l5, am_ju, .int x7, am_ju, am_ju, am_ju, am_ju]) (am_lc (Or.inr rfl) (am_lc (Or.inr rfl) (am_lc (Or.inr rfl) (am_lc (Or.inr rfl) (am_lc (Or.inr rfl) (am_lc (Or.inr rfl) (am_lc (Or.inr rfl) (am_lc (Or.inr rfl) (am_lc (Or.inr rfl) (am_lc (Or.inr rfl) (am_lc (Or.inl rfl) (am_lc (Or.inr rfl) am_ln)))))))))))) ?_
  exact sj_MoveRow_addAll_R4_102 hx hg hM
theorem sb_MoveRow_addAll_R4_6 {fu : Nat} {sn : Nat} {sx : Nat → Int32} {M : List am_C} {q : Nat × Nat} {T : TxT} {D : BdT} {r : RdT} {B : BdT} {V : MvT} {L : RwT} {F : RwT} {R : Nat → RwT} {S : SoT} {P : HeT} {x1 : Int32} {x4 : Int32} {oo : am_O} {e : RwT} {gg : Int64 → Int32 → RwT → Option (RwT)} (hx : x_MoveRow_addAll_R4_6 sn sx M q T D r B V L F R S P x1 x4 oo e) (hg : ∀ (l5 : Int64) (x7 : Int32) (w : RwT), gg l5 x7 w = some e → am_ev 2 k_MoveRow_addAll (6, [.ref 138, .int x1, am_ju, am_ju, .int x4, .long l5, am_ju, .int x7, am_ju, am_ju, am_ju, am_ju], [], (zl sn sx, xa xm T D r B (xb V L F (va_up R ((4 : Int32)).toNatClampNeg w) S P), M, q)) oo) {l5 : Int64} {x7 : Int32} {w : RwT} (hM : b_MoveRow_addAll_6 fu x1 x4 gg l5 x7 w = some e) : am_ev 2 k_MoveRow_addAll (6, [.ref 138, .int x1, am_ju, am_ju, .int x4, .long l5, am_ju, .int x7, am_ju, am_ju, am_ju, am_ju], [], (zl sn sx, xa xm T D r B (xb V L F (va_up R ((4 : Int32)).toNatClampNeg w) S P), M, q)) oo := by
  unfold b_MoveRow_addAll_6 at hM
  rcases am_if hM with ⟨c2, hM⟩ | ⟨c2, hM⟩
  · refine am_ev.kt 3 108 13 [.ref 138, .int x1, am_ju, am_ju, .int x4, .long l5, am_ju, .int x7, am_ju, am_ju, am_ju, am_ju] [] (zl sn sx, xa xm T D r B (xb V L F (va_up R ((4 : Int32)).toNatClampNeg w) S P), M, q) c2 (fun _ _ => rfl) ?_
    cases hM
    cases hx
    exact am_ev.kf 1 (fun _ _ => rfl)
  · refine am_ev.ke 3 108 13 [.ref 138, .int x1, am_ju, am_ju, .int x4, .long l5, am_ju, .int x7, am_ju, am_ju, am_ju, am_ju] [] (zl sn sx, xa xm T D r B (xb V L F (va_up R ((4 : Int32)).toNatClampNeg w) S P), M, q) c2 (fun _ _ => rfl) ?_
    rcases am_if hM with ⟨c3, hM⟩ | ⟨c3, hM⟩
    · refine am_ev.kt 4 108 20 [.ref 138, .int x1, am_ju, am_ju, .int x4, .long l5, am_ju, .int x7, am_ju, am_ju, am_ju, am_ju] [] (zl sn sx, xa xm T D r B (xb V L F (va_up R ((4 : Int32)).toNatClampNeg w) S P), M, q) c3 (fun _ _ => rfl) ?_
      cases hM
      cases hx
      exact am_ev.kf 1 (fun _ _ => rfl)
    · refine am_ev.ke 4 108 20 [.ref 138, .int x1, am_ju, am_ju, .int x4, .long l5, am_ju, .int x7, am_ju, am_ju, am_ju, am_ju] [] (zl sn sx, xa xm T D r B (xb V L F (va_up R ((4 : Int32)).toNatClampNeg w) S P), M, q) c3 (fun _ _ => rfl) ?_
      obtain ⟨rr, hc, hM⟩ := am_bind hM
      obtain ⟨r1, rfl⟩ : ∃ z, z = rr := ⟨_, rfl⟩
      refine am_ev.kg 14 (pc' := 42) (lv' := [.ref 138, .int x1, am_ju, am_ju, .int x4, .long (l5 ^^^ (l5 &&& (-l5))), am_ju, .int x7, .long (l5 &&& (-l5)), am_ju, am_ju, am_ju]) (st' := [.long ((l5 &&& (-l5)) - (1 : Int64)), .int (64 : Int32), .int x1]) (h' := (zl sn sx, xa xm T D r B (xb V L F (va_up R ((4 : Int32)).toNatClampNeg w) S P), M, q)) (fun _ _ => rfl) ?_
      refine am_ev.call rfl rfl rfl ((s_Long_bitCount hc).mono (by decide)) ?_
      show am_ev _ k_MoveRow_addAll (45, [.ref 138, .int x1, am_ju, am_ju, .int x4, .long (l5 ^^^ (l5 &&& (-l5))), am_ju, .int x7, .long (l5 &&& (-l5)), am_ju, am_ju, am_ju], [.int r1, .int (64 : Int32), .int x1], (zl sn sx, xa xm T D r B (xb V L F (va_up R ((4 : Int32)).toNatClampNeg w) S P), M, q)) oo
      rcases am_if hM with ⟨c4, hM⟩ | ⟨c4, hM⟩
      · refine am_ev.kt 5 65 54 [.ref 138, .int x1, am_ju, am_ju, .int x4, .long (l5 ^^^ (l5 &&& (-l5))), am_ju, .int x7, .long (l5 &&& (-l5)), am_ju, .int (x1 + ((64 : Int32) * r1)), am_ju] [] (zl sn sx, xa xm T D r B (xb V L F (va_up R ((4 : Int32)).toNatClampNeg w) S P), M, q) c4 (fun _ _ => rfl) ?_
        refine am_ev.wk (lv' := [.ref 138, .int x1, am_ju, am_ju, .int x4, .long (l5 ^^^ (l5 &&& (-l5))), am_ju, .int x7, am_ju, am_ju, .int (x1 + ((64 : Int32) * r1)), am_ju]) (am_lc (Or.inr rfl) (am_lc (Or.inr rfl) (am_lc (Or.inr rfl) (am_lc (Or.inr rfl) (am_lc (Or.inr rfl) (am_lc (Or.inr rfl) (am_lc (Or.inr rfl) (am_lc (Or.inr rfl) (am_lc (Or.inl rfl) (am_lc (Or.inr rfl) (am_lc (Or.inr rfl) (am_lc (Or.inr rfl) am_ln)))))))))))) ?_
        exact sj_MoveRow_addAll_R4_65 hx hg hM
      · refine am_ev.ke 5 65 54 [.ref 138, .int x1, am_ju, am_ju, .int x4, .long (l5 ^^^ (l5 &&& (-l5))), am_ju, .int x7, .long (l5 &&& (-l5)), am_ju, .int (x1 + ((64 : Int32) * r1)), am_ju] [] (zl sn sx, xa xm T D r B (xb V L F (va_up R ((4 : Int32)).toNatClampNeg w) S P), M, q) c4 (fun _ _ => rfl) ?_
        rcases am_if hM with ⟨c5, hM⟩ | ⟨c5, hM⟩
        · refine am_ev.kt 6 74 65 [.ref 138, .int x1, am_ju, am_ju, .int x4, .long (l5 ^^^ (l5 &&& (-l5))), am_ju, .int x7, .long (l5 &&& (-l5)), am_ju, .int (x1 + ((64 : Int32) * r1)), am_ju] [] (zl sn sx, xa xm T D r B (xb V L F (va_up R ((4 : Int32)).toNatClampNeg w) S P), M, q) c5 (fun _ _ => rfl) ?_
          refine am_ev.kg 2 (pc' := 77) (lv' := [.ref 138, .int x1, am_ju, am_ju, .int x4, .long (l5 ^^^ (l5 &&& (-l5))), am_ju, .int x7, .long (l5 &&& (-l5)), am_ju, .int (x1 + ((64 : Int32) * r1)), .int (2 : Int32)]) (st' := []) (h' := (zl sn sx, xa xm T D r B (xb V L F (va_up R ((4 : Int32)).toNatClampNeg w) S P), M, q)) (fun _ _ => rfl) ?_
          refine am_ev.wk (lv' := [.ref 138, .int x1, am_ju, am_ju, .int x4, .long (l5 ^^^ (l5 &&& (-l5))), am_ju, .int x7, am_ju, am_ju, .int (x1 + ((64 : Int32) * r1)), .int (2 : Int32)]) (am_lc (Or.inr rfl) (am_lc (Or.inr rfl) (am_lc (Or.inr rfl) (am_lc (Or.inr rfl) (am_lc (Or.inr rfl) (am_lc (Or.inr rfl) (am_lc (Or.inr rfl) (am_lc (Or.inr rfl) (am_lc (Or.inl rfl) (am_lc (Or.inr rfl) (am_lc (Or.inr rfl) (am_lc (Or.inr rfl) am_ln)))))))))))) ?_
          obtain ⟨z, hz, hM⟩ := am_bind hM
          obtain ⟨wz_1, rfl⟩ : ∃ y, y = z := ⟨_, rfl⟩
          refine sl_MoveRow_addAll_R4_77 ?_ _ _ _ hz
          show am_ev 2 k_MoveRow_addAll (102, [.ref 138, .int x1, am_ju, am_ju, .int x4, .long (l5 ^^^ (l5 &&& (-l5))), am_ju, .int x7, am_ju, am_ju, am_ju, am_ju], [], (zl sn sx, xa xm T D r B (xb V L F (va_up R ((4 : Int32)).toNatClampNeg wz_1) S P), M, q)) oo
          exact sj_MoveRow_addAll_R4_102 hx hg hM
        · refine am_ev.ke 6 74 65 [.ref 138, .int x1, am_ju, am_ju, .int x4, .long (l5 ^^^ (l5 &&& (-l5))), am_ju, .int x7, .long (l5 &&& (-l5)), am_ju, .int (x1 + ((64 : Int32) * r1)), am_ju] [] (zl sn sx, xa xm T D r B (xb V L F (va_up R ((4 : Int32)).toNatClampNeg w) S P), M, q) c5 (fun _ _ => rfl) ?_
          refine am_ev.wk (lv' := [.ref 138, .int x1, am_ju, am_ju, .int x4, .long (l5 ^^^ (l5 &&& (-l5))), am_ju, .int x7, am_ju, am_ju, .int (x1 + ((64 : Int32) * r1)), am_ju]) (am_lc (Or.inr rfl) (am_lc (Or.inr rfl) (am_lc (Or.inr rfl) (am_lc (Or.inr rfl) (am_lc (Or.inr rfl) (am_lc (Or.inr rfl) (am_lc (Or.inr rfl) (am_lc (Or.inr rfl) (am_lc (Or.inl rfl) (am_lc (Or.inr rfl) (am_lc (Or.inr rfl) (am_lc (Or.inr rfl) am_ln)))))))))))) ?_
          exact sj_MoveRow_addAll_R4_65 hx hg hM
theorem sl_MoveRow_addAll_R4_6 {fu : Nat} {sn : Nat} {sx : Nat → Int32} {M : List am_C} {q : Nat × Nat} {T : TxT} {D : BdT} {r : RdT} {B : BdT} {V : MvT} {L : RwT} {F : RwT} {R : Nat → RwT} {S : SoT} {P : HeT} {x1 : Int32} {x4 : Int32} {oo : am_O} {e : RwT} (hx : x_MoveRow_addAll_R4_6 sn sx M q T D r B V L F R S P x1 x4 oo e) : ∀ (n : Nat) (l5 : Int64) (x7 : Int32) (w : RwT), l_MoveRow_addAll_6 fu x1 x4 n l5 x7 w = some e → am_ev 2 k_MoveRow_addAll (6, [.ref 138, .int x1, am_ju, am_ju, .int x4, .long l5, am_ju, .int x7, am_ju, am_ju, am_ju, am_ju], [], (zl sn sx, xa xm T D r B (xb V L F (va_up R ((4 : Int32)).toNatClampNeg w) S P), M, q)) oo
  | 0, _, _, _, hM => by have h : (none : Option (RwT)) = some e := hM; cases h
  | n + 1, _, _, _, hM => sb_MoveRow_addAll_R4_6 hx (fun _ _ _ hM => sl_MoveRow_addAll_R4_6 hx n _ _ _ hM) hM
theorem se_MoveRow_addAll_R4 {fu : Nat} {sn : Nat} {sx : Nat → Int32} {M : List am_C} {q : Nat × Nat} {T : TxT} {D : BdT} {r : RdT} {B : BdT} {V : MvT} {L : RwT} {F : RwT} {R : Nat → RwT} {S : SoT} {P : HeT} {w : RwT} {x1 : Int32} {l2 : Int64} {x4 : Int32} {oo : am_O} {e : RwT} (hx : y_MoveRow_addAll_R4 sn sx M q T D r B V L F R S P oo e) (hM : f_MoveRow_addAll fu x1 l2 x4 w = some e) : am_ev 2 k_MoveRow_addAll (0, [.ref 138, .int x1, .long l2, am_ju, .int x4, am_ju, am_ju, am_ju, am_ju, am_ju, am_ju, am_ju], [], (zl sn sx, xa xm T D r B (xb V L F (va_up R ((4 : Int32)).toNatClampNeg w) S P), M, q)) oo := by
  unfold f_MoveRow_addAll at hM
  refine am_ev.kg 4 (pc' := 6) (lv' := [.ref 138, .int x1, .long l2, am_ju, .int x4, .long l2, am_ju, .int (0 : Int32), am_ju, am_ju, am_ju, am_ju]) (st' := []) (h' := (zl sn sx, xa xm T D r B (xb V L F (va_up R ((4 : Int32)).toNatClampNeg w) S P), M, q)) (fun _ _ => rfl) ?_
  refine am_ev.wk (lv' := [.ref 138, .int x1, am_ju, am_ju, .int x4, .long l2, am_ju, .int (0 : Int32), am_ju, am_ju, am_ju, am_ju]) (am_lc (Or.inr rfl) (am_lc (Or.inr rfl) (am_lc (Or.inl rfl) (am_lc (Or.inr rfl) (am_lc (Or.inr rfl) (am_lc (Or.inr rfl) (am_lc (Or.inr rfl) (am_lc (Or.inr rfl) (am_lc (Or.inr rfl) (am_lc (Or.inr rfl) (am_lc (Or.inr rfl) (am_lc (Or.inr rfl) am_ln)))))))))))) ?_
  refine sl_MoveRow_addAll_R4_6 ?_ _ _ _ _ hM
  exact hx
theorem s_MoveRow_addAll_R4 {fu : Nat} {sn : Nat} {sx : Nat → Int32} {M : List am_C} {q : Nat × Nat} {T : TxT} {D : BdT} {r : RdT} {B : BdT} {V : MvT} {L : RwT} {F : RwT} {R : Nat → RwT} {S : SoT} {P : HeT} {w : RwT} {x1 : Int32} {l2 : Int64} {x4 : Int32} {ow : RwT} (hM : f_MoveRow_addAll fu x1 l2 x4 w = some ow) : am_cv 3 k_MoveRow_addAll [.ref 138, .int x1, .long l2, .int x4] (zl sn sx, xa xm T D r B (xb V L F (va_up R ((4 : Int32)).toNatClampNeg w) S P), M, q) (.inl none, (zl sn sx, xa xm T D r B (xb V L F (va_up R ((4 : Int32)).toNatClampNeg ow) S P), M, q)) := am_cv.of rfl (se_MoveRow_addAll_R4 (e := ow) (show y_MoveRow_addAll_R4 sn sx M q T D r B V L F R S P _ ow from rfl) hM)
theorem s_MoveRow_addAll_R4x {fu : Nat} {sn : Nat} {sx : Nat → Int32} {M : List am_C} {q : Nat × Nat} {T : TxT} {D : BdT} {r : RdT} {B : BdT} {V : MvT} {L : RwT} {F : RwT} {R : Nat → RwT} {S : SoT} {P : HeT} {x1 : Int32} {l2 : Int64} {x4 : Int32} {ow : RwT} (hM : f_MoveRow_addAll fu x1 l2 x4 (R ((4 : Int32)).toNatClampNeg) = some ow) : am_cv 3 k_MoveRow_addAll [.ref 138, .int x1, .long l2, .int x4] (zl sn sx, xa xm T D r B (xb V L F R S P), M, q) (.inl none, (zl sn sx, xa xm T D r B (xb V L F (va_up R ((4 : Int32)).toNatClampNeg ow) S P), M, q)) := by
  have h := s_MoveRow_addAll_R4 (sn := sn) (sx := sx) (M := M) (q := q) (R := R) (w := R ((4 : Int32)).toNatClampNeg) (T := T) (D := D) (r := r) (B := B) (V := V) (L := L) (F := F) (S := S) (P := P) hM
  rw [am_ups] at h
  exact h
def y_Mover_fill_R4 (sn : Nat) (sx : Nat → Int32) (M : List am_C) (q : Nat × Nat) (T : TxT) (D : BdT) (r : RdT) (B : BdT) (V : MvT) (L : RwT) (F : RwT) (R : Nat → RwT) (S : SoT) (P : HeT) (oo : am_O) : RwT → Prop
  | ow => oo = (.inl none, (zl sn sx, xa xm T D r B (xb V L F (va_up R ((4 : Int32)).toNatClampNeg ow) S P), M, q))
def x_Mover_fill_R4_24 (sn : Nat) (sx : Nat → Int32) (M : List am_C) (q : Nat × Nat) (T : TxT) (D : BdT) (r : RdT) (B : BdT) (V : MvT) (L : RwT) (F : RwT) (R : Nat → RwT) (S : SoT) (P : HeT) (oo : am_O) : RwT → Prop
  | ow => oo = (.inl none, (zl sn sx, xa xm T D r B (xb V L F (va_up R ((4 : Int32)).toNatClampNeg ow) S P), M, q))
theorem sj_Mover_fill_R4_77 {fu : Nat} {sn : Nat} {sx : Nat → Int32} {M : List am_C} {q : Nat × Nat} {T : TxT} {D : BdT} {r : RdT} {B : BdT} {V : MvT} {L : RwT} {F : RwT} {R : Nat → RwT} {S : SoT} {P : HeT} {w : RwT} {l2 : Int64} {x4 : Int32} {s1 : Int32} {t2 : Int64} {s3 : Int32} {oo : am_O} {e : RwT} {gg : Int64 → Int32 → RwT → Option (RwT)} (hx : x_Mover_fill_R4_24 sn sx M q T D r B V L F R S P oo e) (hg : ∀ (l2 : Int64) (x4 : Int32) (w : RwT), gg l2 x4 w = some e → am_ev 4 k_Mover_fill (24, [.ref 123, .ref 138, .long l2, am_ju, .int x4, am_ju], [], (zl sn sx, xa xm T D r B (xb V L F (va_up R ((4 : Int32)).toNatClampNeg w) S P), M, q)) oo) (hM : j_Mover_fill_77 fu gg w B l2 x4 s1 t2 s3 = some e) : am_ev 4 k_Mover_fill (77, [.ref 123, .ref 138, .long l2, am_ju, .int x4, am_ju], [.int s3, .long t2, .int s1, .ref 138], (zl sn sx, xa xm T D r B (xb V L F (va_up R ((4 : Int32)).toNatClampNeg w) S P), M, q)) oo := by
  unfold j_Mover_fill_77 at hM
  obtain ⟨rr, hc, hM⟩ := am_bind hM
  obtain ⟨wg3, rfl⟩ : ∃ z, z = rr := ⟨_, rfl⟩
  refine am_ev.call rfl rfl rfl ((s_MoveRow_addAll_R4 hc).mono (by decide)) ?_
  show am_ev _ k_Mover_fill (80, [.ref 123, .ref 138, .long l2, am_ju, .int x4, am_ju], [], (zl sn sx, xa xm T D r B (xb V L F (va_up R ((4 : Int32)).toNatClampNeg wg3) S P), M, q)) oo
  refine am_ev.kg 2 (pc' := 24) (lv' := [.ref 123, .ref 138, .long l2, am_ju, .int (x4 + (1 : Int32)), am_ju]) (st' := []) (h' := (zl sn sx, xa xm T D r B (xb V L F (va_up R ((4 : Int32)).toNatClampNeg wg3) S P), M, q)) (fun _ _ => rfl) ?_
  exact hg _ _ _ hM
theorem sb_Mover_fill_R4_24 {fu : Nat} {sn : Nat} {sx : Nat → Int32} {M : List am_C} {q : Nat × Nat} {T : TxT} {D : BdT} {r : RdT} {B : BdT} {V : MvT} {L : RwT} {F : RwT} {R : Nat → RwT} {S : SoT} {P : HeT} {oo : am_O} {e : RwT} {gg : Int64 → Int32 → RwT → Option (RwT)} (hx : x_Mover_fill_R4_24 sn sx M q T D r B V L F R S P oo e) (hg : ∀ (l2 : Int64) (x4 : Int32) (w : RwT), gg l2 x4 w = some e → am_ev 4 k_Mover_fill (24, [.ref 123, .ref 138, .long l2, am_ju, .int x4, am_ju], [], (zl sn sx, xa xm T D r B (xb V L F (va_up R ((4 : Int32)).toNatClampNeg w) S P), M, q)) oo) {l2 : Int64} {x4 : Int32} {w : RwT} (hM : b_Mover_fill_24 fu B gg l2 x4 w = some e) : am_ev 4 k_Mover_fill (24, [.ref 123, .ref 138, .long l2, am_ju, .int x4, am_ju], [], (zl sn sx, xa xm T D r B (xb V L F (va_up R ((4 : Int32)).toNatClampNeg w) S P), M, q)) oo := by
  unfold b_Mover_fill_24 at hM
  rcases am_if hM with ⟨c1, hM⟩ | ⟨c1, hM⟩
  · refine am_ev.kt 3 86 31 [.ref 123, .ref 138, .long l2, am_ju, .int x4, am_ju] [] (zl sn sx, xa xm T D r B (xb V L F (va_up R ((4 : Int32)).toNatClampNeg w) S P), M, q) c1 (fun _ _ => rfl) ?_
    cases hM
    cases hx
    exact am_ev.kf 1 (fun _ _ => rfl)
  · refine am_ev.ke 3 86 31 [.ref 123, .ref 138, .long l2, am_ju, .int x4, am_ju] [] (zl sn sx, xa xm T D r B (xb V L F (va_up R ((4 : Int32)).toNatClampNeg w) S P), M, q) c1 (fun _ _ => rfl) ?_
    rcases am_if hM with ⟨c2, hM⟩ | ⟨c2, hM⟩
    · refine am_ev.kt 4 86 37 [.ref 123, .ref 138, .long l2, am_ju, .int x4, am_ju] [] (zl sn sx, xa xm T D r B (xb V L F (va_up R ((4 : Int32)).toNatClampNeg w) S P), M, q) c2 (fun _ _ => rfl) ?_
      cases hM
      cases hx
      exact am_ev.kf 1 (fun _ _ => rfl)
    · refine am_ev.ke 4 86 37 [.ref 123, .ref 138, .long l2, am_ju, .int x4, am_ju] [] (zl sn sx, xa xm T D r B (xb V L F (va_up R ((4 : Int32)).toNatClampNeg w) S P), M, q) c2 (fun _ _ => rfl) ?_
      obtain ⟨rr, hc, hM⟩ := am_bind hM
      obtain ⟨r1, rfl⟩ : ∃ z, z = rr := ⟨_, rfl⟩
      refine am_ev.kg 1 (pc' := 38) (lv' := [.ref 123, .ref 138, .long l2, am_ju, .int x4, am_ju]) (st' := [.long l2]) (h' := (zl sn sx, xa xm T D r B (xb V L F (va_up R ((4 : Int32)).toNatClampNeg w) S P), M, q)) (fun _ _ => rfl) ?_
      refine am_ev.call rfl rfl rfl ((s_Mover_lowest hc).mono (by decide)) ?_
      show am_ev _ k_Mover_fill (41, [.ref 123, .ref 138, .long l2, am_ju, .int x4, am_ju], [.int r1], (zl sn sx, xa xm T D r B (xb V L F (va_up R ((4 : Int32)).toNatClampNeg w) S P), M, q)) oo
      obtain ⟨rr, hc, hM⟩ := am_bind hM
      obtain ⟨r2, rfl⟩ : ∃ z, z = rr := ⟨_, rfl⟩
      refine am_ev.kg 11 (pc' := 55) (lv' := [.ref 123, .ref 138, .long (l2 &&& (l2 - (1 : Int64))), am_ju, .int x4, .int r1]) (st' := [.int r1, .ref 123, .int r1, .ref 138]) (h' := (zl sn sx, xa xm T D r B (xb V L F (va_up R ((4 : Int32)).toNatClampNeg w) S P), M, q)) (fun _ _ => rfl) ?_
      refine am_ev.call rfl rfl rfl ((s_Mover_targets hc).mono (by decide)) ?_
      show am_ev _ k_Mover_fill (58, [.ref 123, .ref 138, .long (l2 &&& (l2 - (1 : Int64))), am_ju, .int x4, .int r1], [.long r2, .int r1, .ref 138], (zl sn sx, xa xm T D r B (xb V L F (va_up R ((4 : Int32)).toNatClampNeg w) S P), M, q)) oo
      obtain ⟨c3, hM⟩ := am_ifn hM
      refine am_ev.kc 4 65 [.ref 123, .ref 138, .long (l2 &&& (l2 - (1 : Int64))), am_ju, .int x4, .int r1] [.int ((bd_men B) (r1).toNatClampNeg), .long r2, .int r1, .ref 138] (zl sn sx, xa xm T D r B (xb V L F (va_up R ((4 : Int32)).toNatClampNeg w) S P), M, q) c3 (fun _ _ => rfl) ?_
      rcases am_if hM with ⟨c4, hM⟩ | ⟨c4, hM⟩
      · refine am_ev.kt 4 76 72 [.ref 123, .ref 138, .long (l2 &&& (l2 - (1 : Int64))), am_ju, .int x4, .int r1] [.long r2, .int r1, .ref 138] (zl sn sx, xa xm T D r B (xb V L F (va_up R ((4 : Int32)).toNatClampNeg w) S P), M, q) c4 (fun _ _ => rfl) ?_
        refine am_ev.kg 1 (pc' := 77) (lv' := [.ref 123, .ref 138, .long (l2 &&& (l2 - (1 : Int64))), am_ju, .int x4, .int r1]) (st' := [.int (0 : Int32), .long r2, .int r1, .ref 138]) (h' := (zl sn sx, xa xm T D r B (xb V L F (va_up R ((4 : Int32)).toNatClampNeg w) S P), M, q)) (fun _ _ => rfl) ?_
        refine am_ev.wk (lv' := [.ref 123, .ref 138, .long (l2 &&& (l2 - (1 : Int64))), am_ju, .int x4, am_ju]) (am_lc (Or.inr rfl) (am_lc (Or.inr rfl) (am_lc (Or.inr rfl) (am_lc (Or.inr rfl) (am_lc (Or.inr rfl) (am_lc (Or.inl rfl) am_ln)))))) ?_
        exact sj_Mover_fill_R4_77 hx hg hM
      · refine am_ev.ke 4 76 72 [.ref 123, .ref 138, .long (l2 &&& (l2 - (1 : Int64))), am_ju, .int x4, .int r1] [.long r2, .int r1, .ref 138] (zl sn sx, xa xm T D r B (xb V L F (va_up R ((4 : Int32)).toNatClampNeg w) S P), M, q) c4 (fun _ _ => rfl) ?_
        refine am_ev.kg 2 (pc' := 77) (lv' := [.ref 123, .ref 138, .long (l2 &&& (l2 - (1 : Int64))), am_ju, .int x4, .int r1]) (st' := [.int (1 : Int32), .long r2, .int r1, .ref 138]) (h' := (zl sn sx, xa xm T D r B (xb V L F (va_up R ((4 : Int32)).toNatClampNeg w) S P), M, q)) (fun _ _ => rfl) ?_
        refine am_ev.wk (lv' := [.ref 123, .ref 138, .long (l2 &&& (l2 - (1 : Int64))), am_ju, .int x4, am_ju]) (am_lc (Or.inr rfl) (am_lc (Or.inr rfl) (am_lc (Or.inr rfl) (am_lc (Or.inr rfl) (am_lc (Or.inr rfl) (am_lc (Or.inl rfl) am_ln)))))) ?_
        exact sj_Mover_fill_R4_77 hx hg hM
theorem sl_Mover_fill_R4_24 {fu : Nat} {sn : Nat} {sx : Nat → Int32} {M : List am_C} {q : Nat × Nat} {T : TxT} {D : BdT} {r : RdT} {B : BdT} {V : MvT} {L : RwT} {F : RwT} {R : Nat → RwT} {S : SoT} {P : HeT} {oo : am_O} {e : RwT} (hx : x_Mover_fill_R4_24 sn sx M q T D r B V L F R S P oo e) : ∀ (n : Nat) (l2 : Int64) (x4 : Int32) (w : RwT), l_Mover_fill_24 fu B n l2 x4 w = some e → am_ev 4 k_Mover_fill (24, [.ref 123, .ref 138, .long l2, am_ju, .int x4, am_ju], [], (zl sn sx, xa xm T D r B (xb V L F (va_up R ((4 : Int32)).toNatClampNeg w) S P), M, q)) oo
  | 0, _, _, _, hM => by have h : (none : Option (RwT)) = some e := hM; cases h
  | n + 1, _, _, _, hM => sb_Mover_fill_R4_24 hx (fun _ _ _ hM => sl_Mover_fill_R4_24 hx n _ _ _ hM) hM
theorem se_Mover_fill_R4 {fu : Nat} {sn : Nat} {sx : Nat → Int32} {M : List am_C} {q : Nat × Nat} {T : TxT} {D : BdT} {r : RdT} {B : BdT} {V : MvT} {L : RwT} {F : RwT} {R : Nat → RwT} {S : SoT} {P : HeT} {w : RwT} {oo : am_O} {e : RwT} (hx : y_Mover_fill_R4 sn sx M q T D r B V L F R S P oo e) (hM : f_Mover_fill fu w B = some e) : am_ev 4 k_Mover_fill (0, [.ref 123, .ref 138, am_ju, am_ju, am_ju, am_ju], [], (zl sn sx, xa xm T D r B (xb V L F (va_up R ((4 : Int32)).toNatClampNeg w) S P), M, q)) oo := by
  unfold f_Mover_fill at hM
  obtain ⟨c5, hM⟩ := am_ifn hM
  refine am_ev.kc 10 20 [.ref 123, .ref 138, am_ju, am_ju, am_ju, am_ju] [.long ((bd_held B) ((bd_side B)).toNatClampNeg)] (zl sn sx, xa xm T D r B (xb V L F (va_up R ((4 : Int32)).toNatClampNeg ((rw_told w), (0 : Int32))) S P), M, q) c5 (fun _ _ => rfl) ?_
  refine am_ev.kg 3 (pc' := 24) (lv' := [.ref 123, .ref 138, .long ((bd_held B) ((bd_side B)).toNatClampNeg), am_ju, .int (0 : Int32), am_ju]) (st' := []) (h' := (zl sn sx, xa xm T D r B (xb V L F (va_up R ((4 : Int32)).toNatClampNeg ((rw_told w), (0 : Int32))) S P), M, q)) (fun _ _ => rfl) ?_
  refine sl_Mover_fill_R4_24 ?_ _ _ _ _ hM
  exact hx
theorem s_Mover_fill_R4 {fu : Nat} {sn : Nat} {sx : Nat → Int32} {M : List am_C} {q : Nat × Nat} {T : TxT} {D : BdT} {r : RdT} {B : BdT} {V : MvT} {L : RwT} {F : RwT} {R : Nat → RwT} {S : SoT} {P : HeT} {w : RwT} {ow : RwT} (hM : f_Mover_fill fu w B = some ow) : am_cv 5 k_Mover_fill [.ref 123, .ref 138] (zl sn sx, xa xm T D r B (xb V L F (va_up R ((4 : Int32)).toNatClampNeg w) S P), M, q) (.inl none, (zl sn sx, xa xm T D r B (xb V L F (va_up R ((4 : Int32)).toNatClampNeg ow) S P), M, q)) := am_cv.of rfl (se_Mover_fill_R4 (e := ow) (show y_Mover_fill_R4 sn sx M q T D r B V L F R S P _ ow from rfl) hM)
theorem s_Mover_fill_R4x {fu : Nat} {sn : Nat} {sx : Nat → Int32} {M : List am_C} {q : Nat × Nat} {T : TxT} {D : BdT} {r : RdT} {B : BdT} {V : MvT} {L : RwT} {F : RwT} {R : Nat → RwT} {S : SoT} {P : HeT} {ow : RwT} (hM : f_Mover_fill fu (R ((4 : Int32)).toNatClampNeg) B = some ow) : am_cv 5 k_Mover_fill [.ref 123, .ref 138] (zl sn sx, xa xm T D r B (xb V L F R S P), M, q) (.inl none, (zl sn sx, xa xm T D r B (xb V L F (va_up R ((4 : Int32)).toNatClampNeg ow) S P), M, q)) := by
  have h := s_Mover_fill_R4 (sn := sn) (sx := sx) (M := M) (q := q) (R := R) (w := R ((4 : Int32)).toNatClampNeg) (T := T) (D := D) (r := r) (B := B) (V := V) (L := L) (F := F) (S := S) (P := P) hM
  rw [am_ups] at h
  exact h
def y_Board_shields_B (sn : Nat) (sx : Nat → Int32) (M : List am_C) (q : Nat × Nat) (c0 : am_C) (tl : List am_C) (T : TxT) (D : BdT) (r : RdT) (b : BdT) (oo : am_O) : Int64 → Prop
  | ov => oo = (.inl (some (.long ov)), (zl sn sx, xa c0 T D r b tl, M, q))
def x_Board_shields_B_32 (sn : Nat) (sx : Nat → Int32) (M : List am_C) (q : Nat × Nat) (c0 : am_C) (tl : List am_C) (T : TxT) (D : BdT) (r : RdT) (b : BdT) (x1 : Int32) (x2 : Int32) (l3 : Int64) (x5 : Int32) (oo : am_O) : (Int64 × Int32) ⊕ (Unit) → Prop
  | (.inl (l6, x10)) => am_ev 1 k_Board_shields (65, [.ref 114, .int x1, .int x2, .long l3, am_ju, .int x5, .long l6, am_ju, am_ju, am_ju, .int x10, am_ju], [], (zl sn sx, xa c0 T D r b tl, M, q)) oo
  | (.inr ()) => am_ev 1 k_Board_shields (143, [.ref 114, .int x1, .int x2, .long l3, am_ju, .int x5, am_ju, am_ju, am_ju, am_ju, am_ju, am_ju], [], (zl sn sx, xa c0 T D r b tl, M, q)) oo
def x_Board_shields_B_5 (sn : Nat) (sx : Nat → Int32) (M : List am_C) (q : Nat × Nat) (c0 : am_C) (tl : List am_C) (T : TxT) (D : BdT) (r : RdT) (b : BdT) (x1 : Int32) (x2 : Int32) (oo : am_O) : Int64 → Prop
  | ov => oo = (.inl (some (.long ov)), (zl sn sx, xa c0 T D r b tl, M, q))
theorem sj_Board_shields_B_143 {fu : Nat} {sn : Nat} {sx : Nat → Int32} {M : List am_C} {q : Nat × Nat} {c0 : am_C} {tl : List am_C} {T : TxT} {D : BdT} {r : RdT} {b : BdT} {x1 : Int32} {x2 : Int32} {l3 : Int64} {x5 : Int32} {oo : am_O} {e : Int64} {gg : Int64 → Int32 → Option (Int64)} (hx : x_Board_shields_B_5 sn sx M q c0 tl T D r b x1 x2 oo e) (hg : ∀ (l3 : Int64) (x5 : Int32), gg l3 x5 = some e → am_ev 1 k_Board_shields (5, [.ref 114, .int x1, .int x2, .long l3, am_ju, .int x5, am_ju, am_ju, am_ju, am_ju, am_ju, am_ju], [], (zl sn sx, xa c0 T D r b tl, M, q)) oo) (hM : j_Board_shields_143 fu gg b x1 x2 l3 x5 = some e) : am_ev 1 k_Board_shields (143, [.ref 114, .int x1, .int x2, .long l3, am_ju, .int x5, am_ju, am_ju, am_ju, am_ju, am_ju, am_ju], [], (zl sn sx, xa c0 T D r b tl, M, q)) oo := by
  unfold j_Board_shields_143 at hM
  refine am_ev.kg 2 (pc' := 5) (lv' := [.ref 114, .int x1, .int x2, .long l3, am_ju, .int (x5 + (1 : Int32)), am_ju, am_ju, am_ju, am_ju, am_ju, am_ju]) (st' := []) (h' := (zl sn sx, xa c0 T D r b tl, M, q)) (fun _ _ => rfl) ?_
  exact hg _ _ hM
theorem sj_Board_shields_B_122 {fu : Nat} {sn : Nat} {sx : Nat → Int32} {M : List am_C} {q : Nat × Nat} {c0 : am_C} {tl : List am_C} {T : TxT} {D : BdT} {r : RdT} {b : BdT} {x1 : Int32} {x2 : Int32} {l3 : Int64} {x5 : Int32} {l6 : Int64} {x8 : Int32} {x9 : Int32} {oo : am_O} {e : (Int64 × Int32) ⊕ (Unit)} {gg : Int64 → Int32 → Int32 → Option ((Int64 × Int32) ⊕ (Unit))} (hx : x_Board_shields_B_32 sn sx M q c0 tl T D r b x1 x2 l3 x5 oo e) (hg : ∀ (l6 : Int64) (x8 : Int32) (x9 : Int32), gg l6 x8 x9 = some e → am_ev 1 k_Board_shields (32, [.ref 114, .int x1, .int x2, .long l3, am_ju, .int x5, .long l6, am_ju, .int x8, .int x9, am_ju, am_ju], [], (zl sn sx, xa c0 T D r b tl, M, q)) oo) (hM : j_Board_shields_122 fu gg b x1 x2 l3 x5 l6 x8 x9 = some e) : am_ev 1 k_Board_shields (122, [.ref 114, .int x1, .int x2, .long l3, am_ju, .int x5, .long l6, am_ju, .int x8, .int x9, am_ju, am_ju], [], (zl sn sx, xa c0 T D r b tl, M, q)) oo := by
  unfold j_Board_shields_122 at hM
  obtain ⟨c1, hM⟩ := am_ifn hM
  refine am_ev.kc 8 135 [.ref 114, .int x1, .int x2, .long l3, am_ju, .int x5, .long l6, am_ju, .int x8, .int x9, am_ju, am_ju] [.int (tb_next ((((64 : Int32) * x5) + x8)).toNatClampNeg)] (zl sn sx, xa c0 T D r b tl, M, q) c1 (fun _ _ => rfl) ?_
  refine am_ev.kg 3 (pc' := 32) (lv' := [.ref 114, .int x1, .int x2, .long l3, am_ju, .int x5, .long l6, am_ju, .int (tb_next ((((64 : Int32) * x5) + x8)).toNatClampNeg), .int (x9 + (1 : Int32)), am_ju, am_ju]) (st' := []) (h' := (zl sn sx, xa c0 T D r b tl, M, q)) (fun _ _ => rfl) ?_
  exact hg _ _ _ hM
theorem sj_Board_shields_B_106 {fu : Nat} {sn : Nat} {sx : Nat → Int32} {M : List am_C} {q : Nat × Nat} {c0 : am_C} {tl : List am_C} {T : TxT} {D : BdT} {r : RdT} {b : BdT} {x1 : Int32} {x2 : Int32} {x5 : Int32} {t0 : Int64} {t1 : Int64} {oo : am_O} {e : Int64} {gg : Int64 → Int32 → Option (Int64)} (hx : x_Board_shields_B_5 sn sx M q c0 tl T D r b x1 x2 oo e) (hg : ∀ (l3 : Int64) (x5 : Int32), gg l3 x5 = some e → am_ev 1 k_Board_shields (5, [.ref 114, .int x1, .int x2, .long l3, am_ju, .int x5, am_ju, am_ju, am_ju, am_ju, am_ju, am_ju], [], (zl sn sx, xa c0 T D r b tl, M, q)) oo) (hM : j_Board_shields_106 fu gg b x1 x2 x5 t0 t1 = some e) : am_ev 1 k_Board_shields (106, [.ref 114, .int x1, .int x2, am_ju, am_ju, .int x5, am_ju, am_ju, am_ju, am_ju, am_ju, am_ju], [.long t1, .long t0], (zl sn sx, xa c0 T D r b tl, M, q)) oo := by
  unfold j_Board_shields_106 at hM
  refine am_ev.kg 3 (pc' := 143) (lv' := [.ref 114, .int x1, .int x2, .long (t0 ||| t1), am_ju, .int x5, am_ju, am_ju, am_ju, am_ju, am_ju, am_ju]) (st' := []) (h' := (zl sn sx, xa c0 T D r b tl, M, q)) (fun _ _ => rfl) ?_
  exact sj_Board_shields_B_143 hx hg hM
theorem sj_Board_shields_B_111 {fu : Nat} {sn : Nat} {sx : Nat → Int32} {M : List am_C} {q : Nat × Nat} {c0 : am_C} {tl : List am_C} {T : TxT} {D : BdT} {r : RdT} {b : BdT} {x1 : Int32} {x2 : Int32} {l3 : Int64} {x5 : Int32} {l6 : Int64} {x8 : Int32} {x9 : Int32} {x10 : Int32} {oo : am_O} {e : (Int64 × Int32) ⊕ (Unit)} {gg : Int64 → Int32 → Int32 → Option ((Int64 × Int32) ⊕ (Unit))} (hx : x_Board_shields_B_32 sn sx M q c0 tl T D r b x1 x2 l3 x5 oo e) (hg : ∀ (l6 : Int64) (x8 : Int32) (x9 : Int32), gg l6 x8 x9 = some e → am_ev 1 k_Board_shields (32, [.ref 114, .int x1, .int x2, .long l3, am_ju, .int x5, .long l6, am_ju, .int x8, .int x9, am_ju, am_ju], [], (zl sn sx, xa c0 T D r b tl, M, q)) oo) (hM : j_Board_shields_111 fu gg b x1 x2 l3 x5 l6 x8 x9 x10 = some e) : am_ev 1 k_Board_shields (111, [.ref 114, .int x1, .int x2, .long l3, am_ju, .int x5, .long l6, am_ju, .int x8, .int x9, .int x10, am_ju], [], (zl sn sx, xa c0 T D r b tl, M, q)) oo := by
  unfold j_Board_shields_111 at hM
  rcases am_if hM with ⟨c2, hM⟩ | ⟨c2, hM⟩
  · refine am_ev.kt 2 122 116 [.ref 114, .int x1, .int x2, .long l3, am_ju, .int x5, .long l6, am_ju, .int x8, .int x9, .int x10, am_ju] [] (zl sn sx, xa c0 T D r b tl, M, q) c2 (fun _ _ => rfl) ?_
    refine am_ev.wk (lv' := [.ref 114, .int x1, .int x2, .long l3, am_ju, .int x5, .long l6, am_ju, .int x8, .int x9, am_ju, am_ju]) (am_lc (Or.inr rfl) (am_lc (Or.inr rfl) (am_lc (Or.inr rfl) (am_lc (Or.inr rfl) (am_lc (Or.inr rfl) (am_lc (Or.inr rfl) (am_lc (Or.inr rfl) (am_lc (Or.inr rfl) (am_lc (Or.inr rfl) (am_lc (Or.inr rfl) (am_lc (Or.inl rfl) (am_lc (Or.inr rfl) am_ln)))))))))))) ?_
    exact sj_Board_shields_B_122 hx hg hM
  · refine am_ev.ke 2 122 116 [.ref 114, .int x1, .int x2, .long l3, am_ju, .int x5, .long l6, am_ju, .int x8, .int x9, .int x10, am_ju] [] (zl sn sx, xa c0 T D r b tl, M, q) c2 (fun _ _ => rfl) ?_
    refine am_ev.kg 4 (pc' := 122) (lv' := [.ref 114, .int x1, .int x2, .long l3, am_ju, .int x5, .long (am_shl (1 : Int64) x8), am_ju, .int x8, .int x9, .int x10, am_ju]) (st' := []) (h' := (zl sn sx, xa c0 T D r b tl, M, q)) (fun _ _ => rfl) ?_
    refine am_ev.wk (lv' := [.ref 114, .int x1, .int x2, .long l3, am_ju, .int x5, .long (am_shl (1 : Int64) x8), am_ju, .int x8, .int x9, am_ju, am_ju]) (am_lc (Or.inr rfl) (am_lc (Or.inr rfl) (am_lc (Or.inr rfl) (am_lc (Or.inr rfl) (am_lc (Or.inr rfl) (am_lc (Or.inr rfl) (am_lc (Or.inr rfl) (am_lc (Or.inr rfl) (am_lc (Or.inr rfl) (am_lc (Or.inr rfl) (am_lc (Or.inl rfl) (am_lc (Or.inr rfl) am_ln)))))))))))) ?_
    exact sj_Board_shields_B_122 hx hg hM
theorem sj_Board_shields_B_92 {fu : Nat} {sn : Nat} {sx : Nat → Int32} {M : List am_C} {q : Nat × Nat} {c0 : am_C} {tl : List am_C} {T : TxT} {D : BdT} {r : RdT} {b : BdT} {x1 : Int32} {x2 : Int32} {l3 : Int64} {x5 : Int32} {l6 : Int64} {s0 : Int32} {oo : am_O} {e : Int64} {gg : Int64 → Int32 → Option (Int64)} (hx : x_Board_shields_B_5 sn sx M q c0 tl T D r b x1 x2 oo e) (hg : ∀ (l3 : Int64) (x5 : Int32), gg l3 x5 = some e → am_ev 1 k_Board_shields (5, [.ref 114, .int x1, .int x2, .long l3, am_ju, .int x5, am_ju, am_ju, am_ju, am_ju, am_ju, am_ju], [], (zl sn sx, xa c0 T D r b tl, M, q)) oo) (hM : j_Board_shields_92 fu gg b x1 x2 l3 x5 l6 s0 = some e) : am_ev 1 k_Board_shields (92, [.ref 114, .int x1, .int x2, .long l3, am_ju, .int x5, .long l6, am_ju, am_ju, am_ju, am_ju, am_ju], [.int s0], (zl sn sx, xa c0 T D r b tl, M, q)) oo := by
  unfold j_Board_shields_92 at hM
  rcases am_if hM with ⟨c3, hM⟩ | ⟨c3, hM⟩
  · refine am_ev.kt 4 105 100 [.ref 114, .int x1, .int x2, .long l3, am_ju, .int x5, .long l6, am_ju, am_ju, am_ju, am_ju, .int s0] [.long l3] (zl sn sx, xa c0 T D r b tl, M, q) c3 (fun _ _ => rfl) ?_
    refine am_ev.kg 1 (pc' := 106) (lv' := [.ref 114, .int x1, .int x2, .long l3, am_ju, .int x5, .long l6, am_ju, am_ju, am_ju, am_ju, .int s0]) (st' := [.long (0 : Int64), .long l3]) (h' := (zl sn sx, xa c0 T D r b tl, M, q)) (fun _ _ => rfl) ?_
    refine am_ev.wk (lv' := [.ref 114, .int x1, .int x2, am_ju, am_ju, .int x5, am_ju, am_ju, am_ju, am_ju, am_ju, am_ju]) (am_lc (Or.inr rfl) (am_lc (Or.inr rfl) (am_lc (Or.inr rfl) (am_lc (Or.inl rfl) (am_lc (Or.inr rfl) (am_lc (Or.inr rfl) (am_lc (Or.inl rfl) (am_lc (Or.inr rfl) (am_lc (Or.inr rfl) (am_lc (Or.inr rfl) (am_lc (Or.inr rfl) (am_lc (Or.inl rfl) am_ln)))))))))))) ?_
    exact sj_Board_shields_B_106 hx hg hM
  · refine am_ev.ke 4 105 100 [.ref 114, .int x1, .int x2, .long l3, am_ju, .int x5, .long l6, am_ju, am_ju, am_ju, am_ju, .int s0] [.long l3] (zl sn sx, xa c0 T D r b tl, M, q) c3 (fun _ _ => rfl) ?_
    refine am_ev.kg 2 (pc' := 106) (lv' := [.ref 114, .int x1, .int x2, .long l3, am_ju, .int x5, .long l6, am_ju, am_ju, am_ju, am_ju, .int s0]) (st' := [.long l6, .long l3]) (h' := (zl sn sx, xa c0 T D r b tl, M, q)) (fun _ _ => rfl) ?_
    refine am_ev.wk (lv' := [.ref 114, .int x1, .int x2, am_ju, am_ju, .int x5, am_ju, am_ju, am_ju, am_ju, am_ju, am_ju]) (am_lc (Or.inr rfl) (am_lc (Or.inr rfl) (am_lc (Or.inr rfl) (am_lc (Or.inl rfl) (am_lc (Or.inr rfl) (am_lc (Or.inr rfl) (am_lc (Or.inl rfl) (am_lc (Or.inr rfl) (am_lc (Or.inr rfl) (am_lc (Or.inr rfl) (am_lc (Or.inr rfl) (am_lc (Or.inl rfl) am_ln)))))))))))) ?_
    exact sj_Board_shields_B_106 hx hg hM
theorem sb_Board_shields_B_32 {fu : Nat} {sn : Nat} {sx : Nat → Int32} {M : List am_C} {q : Nat × Nat} {c0 : am_C} {tl : List am_C} {T : TxT} {D : BdT} {r : RdT} {b : BdT} {x1 : Int32} {x2 : Int32} {l3 : Int64} {x5 : Int32} {oo : am_O} {e : (Int64 × Int32) ⊕ (Unit)} {gg : Int64 → Int32 → Int32 → Option ((Int64 × Int32) ⊕ (Unit))} (hx : x_Board_shields_B_32 sn sx M q c0 tl T D r b x1 x2 l3 x5 oo e) (hg : ∀ (l6 : Int64) (x8 : Int32) (x9 : Int32), gg l6 x8 x9 = some e → am_ev 1 k_Board_shields (32, [.ref 114, .int x1, .int x2, .long l3, am_ju, .int x5, .long l6, am_ju, .int x8, .int x9, am_ju, am_ju], [], (zl sn sx, xa c0 T D r b tl, M, q)) oo) {l6 : Int64} {x8 : Int32} {x9 : Int32} (hM : b_Board_shields_32 fu b x1 x2 l3 x5 gg l6 x8 x9 = some e) : am_ev 1 k_Board_shields (32, [.ref 114, .int x1, .int x2, .long l3, am_ju, .int x5, .long l6, am_ju, .int x8, .int x9, am_ju, am_ju], [], (zl sn sx, xa c0 T D r b tl, M, q)) oo := by
  unfold b_Board_shields_32 at hM
  rcases am_if hM with ⟨c4, hM⟩ | ⟨c4, hM⟩
  · refine am_ev.kt 3 143 39 [.ref 114, .int x1, .int x2, .long l3, am_ju, .int x5, .long l6, am_ju, .int x8, .int x9, am_ju, am_ju] [] (zl sn sx, xa c0 T D r b tl, M, q) c4 (fun _ _ => rfl) ?_
    refine am_ev.wk (lv' := [.ref 114, .int x1, .int x2, .long l3, am_ju, .int x5, am_ju, am_ju, am_ju, am_ju, am_ju, am_ju]) (am_lc (Or.inr rfl) (am_lc (Or.inr rfl) (am_lc (Or.inr rfl) (am_lc (Or.inr rfl) (am_lc (Or.inr rfl) (am_lc (Or.inr rfl) (am_lc (Or.inl rfl) (am_lc (Or.inr rfl) (am_lc (Or.inl rfl) (am_lc (Or.inl rfl) (am_lc (Or.inr rfl) (am_lc (Or.inr rfl) am_ln)))))))))))) ?_
    cases hM
    exact hx
  · refine am_ev.ke 3 143 39 [.ref 114, .int x1, .int x2, .long l3, am_ju, .int x5, .long l6, am_ju, .int x8, .int x9, am_ju, am_ju] [] (zl sn sx, xa c0 T D r b tl, M, q) c4 (fun _ _ => rfl) ?_
    rcases am_if hM with ⟨c5, hM⟩ | ⟨c5, hM⟩
    · refine am_ev.kt 2 143 44 [.ref 114, .int x1, .int x2, .long l3, am_ju, .int x5, .long l6, am_ju, .int x8, .int x9, am_ju, am_ju] [] (zl sn sx, xa c0 T D r b tl, M, q) c5 (fun _ _ => rfl) ?_
      refine am_ev.wk (lv' := [.ref 114, .int x1, .int x2, .long l3, am_ju, .int x5, am_ju, am_ju, am_ju, am_ju, am_ju, am_ju]) (am_lc (Or.inr rfl) (am_lc (Or.inr rfl) (am_lc (Or.inr rfl) (am_lc (Or.inr rfl) (am_lc (Or.inr rfl) (am_lc (Or.inr rfl) (am_lc (Or.inl rfl) (am_lc (Or.inr rfl) (am_lc (Or.inl rfl) (am_lc (Or.inl rfl) (am_lc (Or.inr rfl) (am_lc (Or.inr rfl) am_ln)))))))))))) ?_
      cases hM
      exact hx
    · refine am_ev.ke 2 143 44 [.ref 114, .int x1, .int x2, .long l3, am_ju, .int x5, .long l6, am_ju, .int x8, .int x9, am_ju, am_ju] [] (zl sn sx, xa c0 T D r b tl, M, q) c5 (fun _ _ => rfl) ?_
      obtain ⟨c6, hM⟩ := am_ifn hM
      refine am_ev.kc 4 51 [.ref 114, .int x1, .int x2, .long l3, am_ju, .int x5, .long l6, am_ju, .int x8, .int x9, am_ju, am_ju] [.int ((bd_men b) (x8).toNatClampNeg)] (zl sn sx, xa c0 T D r b tl, M, q) c6 (fun _ _ => rfl) ?_
      rcases am_if hM with ⟨c7, hM⟩ | ⟨c7, hM⟩
      · refine am_ev.kt 3 111 58 [.ref 114, .int x1, .int x2, .long l3, am_ju, .int x5, .long l6, am_ju, .int x8, .int x9, .int ((bd_men b) (x8).toNatClampNeg), am_ju] [] (zl sn sx, xa c0 T D r b tl, M, q) c7 (fun _ _ => rfl) ?_
        exact sj_Board_shields_B_111 hx hg hM
      · refine am_ev.ke 3 111 58 [.ref 114, .int x1, .int x2, .long l3, am_ju, .int x5, .long l6, am_ju, .int x8, .int x9, .int ((bd_men b) (x8).toNatClampNeg), am_ju] [] (zl sn sx, xa c0 T D r b tl, M, q) c7 (fun _ _ => rfl) ?_
        rcases am_if hM with ⟨c8, hM⟩ | ⟨c8, hM⟩
        · refine am_ev.kt 4 111 65 [.ref 114, .int x1, .int x2, .long l3, am_ju, .int x5, .long l6, am_ju, .int x8, .int x9, .int ((bd_men b) (x8).toNatClampNeg), am_ju] [] (zl sn sx, xa c0 T D r b tl, M, q) c8 (fun _ _ => rfl) ?_
          exact sj_Board_shields_B_111 hx hg hM
        · refine am_ev.ke 4 111 65 [.ref 114, .int x1, .int x2, .long l3, am_ju, .int x5, .long l6, am_ju, .int x8, .int x9, .int ((bd_men b) (x8).toNatClampNeg), am_ju] [] (zl sn sx, xa c0 T D r b tl, M, q) c8 (fun _ _ => rfl) ?_
          refine am_ev.wk (lv' := [.ref 114, .int x1, .int x2, .long l3, am_ju, .int x5, .long l6, am_ju, am_ju, am_ju, .int ((bd_men b) (x8).toNatClampNeg), am_ju]) (am_lc (Or.inr rfl) (am_lc (Or.inr rfl) (am_lc (Or.inr rfl) (am_lc (Or.inr rfl) (am_lc (Or.inr rfl) (am_lc (Or.inr rfl) (am_lc (Or.inr rfl) (am_lc (Or.inr rfl) (am_lc (Or.inl rfl) (am_lc (Or.inl rfl) (am_lc (Or.inr rfl) (am_lc (Or.inr rfl) am_ln)))))))))))) ?_
          cases hM
          exact hx
theorem sl_Board_shields_B_32 {fu : Nat} {sn : Nat} {sx : Nat → Int32} {M : List am_C} {q : Nat × Nat} {c0 : am_C} {tl : List am_C} {T : TxT} {D : BdT} {r : RdT} {b : BdT} {x1 : Int32} {x2 : Int32} {l3 : Int64} {x5 : Int32} {oo : am_O} {e : (Int64 × Int32) ⊕ (Unit)} (hx : x_Board_shields_B_32 sn sx M q c0 tl T D r b x1 x2 l3 x5 oo e) : ∀ (n : Nat) (l6 : Int64) (x8 : Int32) (x9 : Int32), l_Board_shields_32 fu b x1 x2 l3 x5 n l6 x8 x9 = some e → am_ev 1 k_Board_shields (32, [.ref 114, .int x1, .int x2, .long l3, am_ju, .int x5, .long l6, am_ju, .int x8, .int x9, am_ju, am_ju], [], (zl sn sx, xa c0 T D r b tl, M, q)) oo
  | 0, _, _, _, hM => by have h : (none : Option ((Int64 × Int32) ⊕ (Unit))) = some e := hM; cases h
  | n + 1, _, _, _, hM => sb_Board_shields_B_32 hx (fun _ _ _ hM => sl_Board_shields_B_32 hx n _ _ _ hM) hM
theorem sj_Board_shields_B_91 {fu : Nat} {sn : Nat} {sx : Nat → Int32} {M : List am_C} {q : Nat × Nat} {c0 : am_C} {tl : List am_C} {T : TxT} {D : BdT} {r : RdT} {b : BdT} {x1 : Int32} {x2 : Int32} {l3 : Int64} {x5 : Int32} {l6 : Int64} {oo : am_O} {e : Int64} {gg : Int64 → Int32 → Option (Int64)} (hx : x_Board_shields_B_5 sn sx M q c0 tl T D r b x1 x2 oo e) (hg : ∀ (l3 : Int64) (x5 : Int32), gg l3 x5 = some e → am_ev 1 k_Board_shields (5, [.ref 114, .int x1, .int x2, .long l3, am_ju, .int x5, am_ju, am_ju, am_ju, am_ju, am_ju, am_ju], [], (zl sn sx, xa c0 T D r b tl, M, q)) oo) (hM : j_Board_shields_91 fu gg b x1 x2 l3 x5 l6 = some e) : am_ev 1 k_Board_shields (91, [.ref 114, .int x1, .int x2, .long l3, am_ju, .int x5, .long l6, am_ju, am_ju, am_ju, am_ju, am_ju], [], (zl sn sx, xa c0 T D r b tl, M, q)) oo := by
  unfold j_Board_shields_91 at hM
  refine am_ev.kg 1 (pc' := 92) (lv' := [.ref 114, .int x1, .int x2, .long l3, am_ju, .int x5, .long l6, am_ju, am_ju, am_ju, am_ju, am_ju]) (st' := [.int (0 : Int32)]) (h' := (zl sn sx, xa c0 T D r b tl, M, q)) (fun _ _ => rfl) ?_
  exact sj_Board_shields_B_92 hx hg hM
theorem sj_Board_shields_B_65 {fu : Nat} {sn : Nat} {sx : Nat → Int32} {M : List am_C} {q : Nat × Nat} {c0 : am_C} {tl : List am_C} {T : TxT} {D : BdT} {r : RdT} {b : BdT} {x1 : Int32} {x2 : Int32} {l3 : Int64} {x5 : Int32} {l6 : Int64} {x10 : Int32} {oo : am_O} {e : Int64} {gg : Int64 → Int32 → Option (Int64)} (hx : x_Board_shields_B_5 sn sx M q c0 tl T D r b x1 x2 oo e) (hg : ∀ (l3 : Int64) (x5 : Int32), gg l3 x5 = some e → am_ev 1 k_Board_shields (5, [.ref 114, .int x1, .int x2, .long l3, am_ju, .int x5, am_ju, am_ju, am_ju, am_ju, am_ju, am_ju], [], (zl sn sx, xa c0 T D r b tl, M, q)) oo) (hM : j_Board_shields_65 fu gg b x1 x2 l3 x5 l6 x10 = some e) : am_ev 1 k_Board_shields (65, [.ref 114, .int x1, .int x2, .long l3, am_ju, .int x5, .long l6, am_ju, am_ju, am_ju, .int x10, am_ju], [], (zl sn sx, xa c0 T D r b tl, M, q)) oo := by
  unfold j_Board_shields_65 at hM
  rcases am_if hM with ⟨c9, hM⟩ | ⟨c9, hM⟩
  · refine am_ev.kt 5 91 73 [.ref 114, .int x1, .int x2, .long l3, am_ju, .int x5, .long l6, am_ju, am_ju, am_ju, .int x10, am_ju] [] (zl sn sx, xa c0 T D r b tl, M, q) c9 (fun _ _ => rfl) ?_
    refine am_ev.wk (lv' := [.ref 114, .int x1, .int x2, .long l3, am_ju, .int x5, .long l6, am_ju, am_ju, am_ju, am_ju, am_ju]) (am_lc (Or.inr rfl) (am_lc (Or.inr rfl) (am_lc (Or.inr rfl) (am_lc (Or.inr rfl) (am_lc (Or.inr rfl) (am_lc (Or.inr rfl) (am_lc (Or.inr rfl) (am_lc (Or.inr rfl) (am_lc (Or.inr rfl) (am_lc (Or.inr rfl) (am_lc (Or.inl rfl) (am_lc (Or.inr rfl) am_ln)))))))))))) ?_
    exact sj_Board_shields_B_91 hx hg hM
  · refine am_ev.ke 5 91 73 [.ref 114, .int x1, .int x2, .long l3, am_ju, .int x5, .long l6, am_ju, am_ju, am_ju, .int x10, am_ju] [] (zl sn sx, xa c0 T D r b tl, M, q) c9 (fun _ _ => rfl) ?_
    obtain ⟨c10, hM⟩ := am_ifn hM
    refine am_ev.kc 3 79 [.ref 114, .int x1, .int x2, .long l3, am_ju, .int x5, .long l6, am_ju, am_ju, am_ju, .int x10, am_ju] [.int (tb_FAR (x10).toNatClampNeg)] (zl sn sx, xa c0 T D r b tl, M, q) c10 (fun _ _ => rfl) ?_
    rcases am_if hM with ⟨c11, hM⟩ | ⟨c11, hM⟩
    · refine am_ev.kt 5 91 87 [.ref 114, .int x1, .int x2, .long l3, am_ju, .int x5, .long l6, am_ju, am_ju, am_ju, .int x10, am_ju] [] (zl sn sx, xa c0 T D r b tl, M, q) c11 (fun _ _ => rfl) ?_
      refine am_ev.wk (lv' := [.ref 114, .int x1, .int x2, .long l3, am_ju, .int x5, .long l6, am_ju, am_ju, am_ju, am_ju, am_ju]) (am_lc (Or.inr rfl) (am_lc (Or.inr rfl) (am_lc (Or.inr rfl) (am_lc (Or.inr rfl) (am_lc (Or.inr rfl) (am_lc (Or.inr rfl) (am_lc (Or.inr rfl) (am_lc (Or.inr rfl) (am_lc (Or.inr rfl) (am_lc (Or.inr rfl) (am_lc (Or.inl rfl) (am_lc (Or.inr rfl) am_ln)))))))))))) ?_
      exact sj_Board_shields_B_91 hx hg hM
    · refine am_ev.ke 5 91 87 [.ref 114, .int x1, .int x2, .long l3, am_ju, .int x5, .long l6, am_ju, am_ju, am_ju, .int x10, am_ju] [] (zl sn sx, xa c0 T D r b tl, M, q) c11 (fun _ _ => rfl) ?_
      refine am_ev.kg 2 (pc' := 92) (lv' := [.ref 114, .int x1, .int x2, .long l3, am_ju, .int x5, .long l6, am_ju, am_ju, am_ju, .int x10, am_ju]) (st' := [.int (1 : Int32)]) (h' := (zl sn sx, xa c0 T D r b tl, M, q)) (fun _ _ => rfl) ?_
      refine am_ev.wk (lv' := [.ref 114, .int x1, .int x2, .long l3, am_ju, .int x5, .long l6, am_ju, am_ju, am_ju, am_ju, am_ju]) (am_lc (Or.inr rfl) (am_lc (Or.inr rfl) (am_lc (Or.inr rfl) (am_lc (Or.inr rfl) (am_lc (Or.inr rfl) (am_lc (Or.inr rfl) (am_lc (Or.inr rfl) (am_lc (Or.inr rfl) (am_lc (Or.inr rfl) (am_lc (Or.inr rfl) (am_lc (Or.inl rfl) (am_lc (Or.inr rfl) am_ln)))))))))))) ?_
      exact sj_Board_shields_B_92 hx hg hM
theorem sb_Board_shields_B_5 {fu : Nat} {sn : Nat} {sx : Nat → Int32} {M : List am_C} {q : Nat × Nat} {c0 : am_C} {tl : List am_C} {T : TxT} {D : BdT} {r : RdT} {b : BdT} {x1 : Int32} {x2 : Int32} {oo : am_O} {e : Int64} {gg : Int64 → Int32 → Option (Int64)} (hx : x_Board_shields_B_5 sn sx M q c0 tl T D r b x1 x2 oo e) (hg : ∀ (l3 : Int64) (x5 : Int32), gg l3 x5 = some e → am_ev 1 k_Board_shields (5, [.ref 114, .int x1, .int x2, .long l3, am_ju, .int x5, am_ju, am_ju, am_ju, am_ju, am_ju, am_ju], [], (zl sn sx, xa c0 T D r b tl, M, q)) oo) {l3 : Int64} {x5 : Int32} (hM : b_Board_shields_5 fu b x1 x2 gg l3 x5 = some e) : am_ev 1 k_Board_shields (5, [.ref 114, .int x1, .int x2, .long l3, am_ju, .int x5, am_ju, am_ju, am_ju, am_ju, am_ju, am_ju], [], (zl sn sx, xa c0 T D r b tl, M, q)) oo := by
  unfold b_Board_shields_5 at hM
  rcases am_if hM with ⟨c12, hM⟩ | ⟨c12, hM⟩
  · refine am_ev.kt 3 149 12 [.ref 114, .int x1, .int x2, .long l3, am_ju, .int x5, am_ju, am_ju, am_ju, am_ju, am_ju, am_ju] [] (zl sn sx, xa c0 T D r b tl, M, q) c12 (fun _ _ => rfl) ?_
    cases hM
    cases hx
    exact am_ev.kf 2 (fun _ _ => rfl)
  · refine am_ev.ke 3 149 12 [.ref 114, .int x1, .int x2, .long l3, am_ju, .int x5, am_ju, am_ju, am_ju, am_ju, am_ju, am_ju] [] (zl sn sx, xa c0 T D r b tl, M, q) c12 (fun _ _ => rfl) ?_
    obtain ⟨c13, hM⟩ := am_ifn hM
    refine am_ev.kc 10 27 [.ref 114, .int x1, .int x2, .long l3, am_ju, .int x5, .long (0 : Int64), am_ju, am_ju, am_ju, am_ju, am_ju] [.int (tb_next ((((64 : Int32) * x5) + x1)).toNatClampNeg)] (zl sn sx, xa c0 T D r b tl, M, q) c13 (fun _ _ => rfl) ?_
    refine am_ev.kg 3 (pc' := 32) (lv' := [.ref 114, .int x1, .int x2, .long l3, am_ju, .int x5, .long (0 : Int64), am_ju, .int (tb_next ((((64 : Int32) * x5) + x1)).toNatClampNeg), .int (0 : Int32), am_ju, am_ju]) (st' := []) (h' := (zl sn sx, xa c0 T D r b tl, M, q)) (fun _ _ => rfl) ?_
    obtain ⟨z, hz, hM⟩ := am_bind hM
    rcases z with z | z
    ·
      obtain ⟨l6_1, x10_1⟩ := z
      refine sl_Board_shields_B_32 ?_ _ _ _ _ hz
      show am_ev 1 k_Board_shields (65, [.ref 114, .int x1, .int x2, .long l3, am_ju, .int x5, .long l6_1, am_ju, am_ju, am_ju, .int x10_1, am_ju], [], (zl sn sx, xa c0 T D r b tl, M, q)) oo
      exact sj_Board_shields_B_65 hx hg hM
    ·
      refine sl_Board_shields_B_32 ?_ _ _ _ _ hz
      show am_ev 1 k_Board_shields (143, [.ref 114, .int x1, .int x2, .long l3, am_ju, .int x5, am_ju, am_ju, am_ju, am_ju, am_ju, am_ju], [], (zl sn sx, xa c0 T D r b tl, M, q)) oo
      exact sj_Board_shields_B_143 hx hg hM
theorem sl_Board_shields_B_5 {fu : Nat} {sn : Nat} {sx : Nat → Int32} {M : List am_C} {q : Nat × Nat} {c0 : am_C} {tl : List am_C} {T : TxT} {D : BdT} {r : RdT} {b : BdT} {x1 : Int32} {x2 : Int32} {oo : am_O} {e : Int64} (hx : x_Board_shields_B_5 sn sx M q c0 tl T D r b x1 x2 oo e) : ∀ (n : Nat) (l3 : Int64) (x5 : Int32), l_Board_shields_5 fu b x1 x2 n l3 x5 = some e → am_ev 1 k_Board_shields (5, [.ref 114, .int x1, .int x2, .long l3, am_ju, .int x5, am_ju, am_ju, am_ju, am_ju, am_ju, am_ju], [], (zl sn sx, xa c0 T D r b tl, M, q)) oo
  | 0, _, _, hM => by have h : (none : Option (Int64)) = some e := hM; cases h
  | n + 1, _, _, hM => sb_Board_shields_B_5 hx (fun _ _ hM => sl_Board_shields_B_5 hx n _ _ hM) hM
theorem se_Board_shields_B {fu : Nat} {sn : Nat} {sx : Nat → Int32} {M : List am_C} {q : Nat × Nat} {c0 : am_C} {tl : List am_C} {T : TxT} {D : BdT} {r : RdT} {b : BdT} {x1 : Int32} {x2 : Int32} {oo : am_O} {e : Int64} (hx : y_Board_shields_B sn sx M q c0 tl T D r b oo e) (hM : f_Board_shields fu x1 x2 b = some e) : am_ev 1 k_Board_shields (0, [.ref 114, .int x1, .int x2, am_ju, am_ju, am_ju, am_ju, am_ju, am_ju, am_ju, am_ju, am_ju], [], (zl sn sx, xa c0 T D r b tl, M, q)) oo := by
  unfold f_Board_shields at hM
  refine am_ev.kg 4 (pc' := 5) (lv' := [.ref 114, .int x1, .int x2, .long (0 : Int64), am_ju, .int (0 : Int32), am_ju, am_ju, am_ju, am_ju, am_ju, am_ju]) (st' := []) (h' := (zl sn sx, xa c0 T D r b tl, M, q)) (fun _ _ => rfl) ?_
  refine sl_Board_shields_B_5 ?_ _ _ _ hM
  exact hx
theorem s_Board_shields_B {fu : Nat} {sn : Nat} {sx : Nat → Int32} {M : List am_C} {q : Nat × Nat} {c0 : am_C} {tl : List am_C} {T : TxT} {D : BdT} {r : RdT} {b : BdT} {x1 : Int32} {x2 : Int32} {ov : Int64} (hM : f_Board_shields fu x1 x2 b = some ov) : am_cv 2 k_Board_shields [.ref 114, .int x1, .int x2] (zl sn sx, xa c0 T D r b tl, M, q) (.inl (some (.long ov)), (zl sn sx, xa c0 T D r b tl, M, q)) := am_cv.of rfl (se_Board_shields_B (e := ov) (show y_Board_shields_B sn sx M q c0 tl T D r b _ ov from rfl) hM)
def y_Mover_takeAim (sn : Nat) (sx : Nat → Int32) (M : List am_C) (q : Nat × Nat) (T : TxT) (D : BdT) (r : RdT) (B : BdT) (L : RwT) (F : RwT) (R : Nat → RwT) (S : SoT) (P : HeT) (oo : am_O) : MvT → Prop
  | oV => oo = (.inl none, (zl sn sx, xa xm T D r B (xb oV L F R S P), M, q))
theorem sj_Mover_takeAim_58 {fu : Nat} {sn : Nat} {sx : Nat → Int32} {M : List am_C} {q : Nat × Nat} {T : TxT} {D : BdT} {r : RdT} {B : BdT} {V : MvT} {L : RwT} {F : RwT} {R : Nat → RwT} {S : SoT} {P : HeT} {x1 : Int32} {x2 : Int32} {l3 : Int64} {l5 : Int64} {s0 : Int32} {oo : am_O} {e : MvT} (hx : y_Mover_takeAim sn sx M q T D r B L F R S P oo e) (hM : j_Mover_takeAim_58 fu B V x1 x2 l3 l5 s0 = some e) : am_ev 2 k_Mover_takeAim (58, [.ref 123, .int x1, .int x2, .long l3, am_ju, .long l5, am_ju, am_ju], [.int s0], (zl sn sx, xa xm T D r B (xb V L F R S P), M, q)) oo := by
  unfold j_Mover_takeAim_58 at hM
  obtain ⟨rr, hc, hM⟩ := am_bind hM
  obtain ⟨r3, rfl⟩ : ∃ z, z = rr := ⟨_, rfl⟩
  refine am_ev.kg 12 (pc' := 77) (lv' := [.ref 123, .int x1, .int x2, .long l3, am_ju, .long l5, am_ju, .int s0]) (st' := [.int (1 : Int32), .int (s0 + (2 : Int32)), .int s0, .int x2, .ref 114, .int (1 : Int32), .ref 124]) (h' := (zl sn sx, xa xm T D r B (xb V L F R S P), M, q)) (fun _ _ => rfl) ?_
  refine am_ev.call rfl rfl rfl ((s_Board_seen_B hc).mono (by decide)) ?_
  show am_ev _ k_Mover_takeAim (80, [.ref 123, .int x1, .int x2, .long l3, am_ju, .long l5, am_ju, .int s0], [.long r3, .int (1 : Int32), .ref 124], (zl sn sx, xa xm T D r B (xb V L F R S P), M, q)) oo
  obtain ⟨rr, hc, hM⟩ := am_bind hM
  obtain ⟨r4, rfl⟩ : ∃ z, z = rr := ⟨_, rfl⟩
  refine am_ev.kg 3 (pc' := 85) (lv' := [.ref 123, .int x1, .int x2, .long l3, am_ju, .long l5, am_ju, .int s0]) (st' := [.ref 123, .long (r3 ||| (-72057594037927681 : Int64)), .int (1 : Int32), .ref 124]) (h' := (zl sn sx, xa xm T D r B (xb V L F R S P), M, q)) (fun _ _ => rfl) ?_
  refine am_ev.call rfl rfl rfl ((s_Mover_passedBit hc).mono (by decide)) ?_
  show am_ev _ k_Mover_takeAim (88, [.ref 123, .int x1, .int x2, .long l3, am_ju, .long l5, am_ju, .int s0], [.long r4, .long (r3 ||| (-72057594037927681 : Int64)), .int (1 : Int32), .ref 124], (zl sn sx, xa xm T D r B (xb V L F R S P), M, q)) oo
  obtain ⟨c1, hM⟩ := am_ifn hM
  refine am_ev.kc 2 90 [.ref 123, .int x1, .int x2, .long l3, am_ju, .long l5, am_ju, .int s0] [] (zl sn sx, xa xm T D r B (xb ((vp_updL (mv_aims V) ((1 : Int32)).toNatClampNeg ((r3 ||| (-72057594037927681 : Int64)) ||| r4)), (mv_hiding V)) L F R S P), M, q) c1 (fun _ _ => rfl) ?_
  obtain ⟨rr, hc, hM⟩ := am_bind hM
  obtain ⟨r5, rfl⟩ : ∃ z, z = rr := ⟨_, rfl⟩
  refine am_ev.kg 9 (pc' := 105) (lv' := [.ref 123, .int x1, .int x2, .long l3, am_ju, .long l5, am_ju, .int s0]) (st' := [.int (1 : Int32), .int (16 : Int32), .int (8 : Int32), .int x2, .ref 114, .int (2 : Int32), .ref 124]) (h' := (zl sn sx, xa xm T D r B (xb ((vp_updL (mv_aims V) ((1 : Int32)).toNatClampNeg ((r3 ||| (-72057594037927681 : Int64)) ||| r4)), (mv_hiding V)) L F R S P), M, q)) (fun _ _ => rfl) ?_
  refine am_ev.call rfl rfl rfl ((s_Board_seen_B hc).mono (by decide)) ?_
  show am_ev _ k_Mover_takeAim (108, [.ref 123, .int x1, .int x2, .long l3, am_ju, .long l5, am_ju, .int s0], [.long r5, .int (2 : Int32), .ref 124], (zl sn sx, xa xm T D r B (xb ((vp_updL (mv_aims V) ((1 : Int32)).toNatClampNeg ((r3 ||| (-72057594037927681 : Int64)) ||| r4)), (mv_hiding V)) L F R S P), M, q)) oo
  obtain ⟨c2, hM⟩ := am_ifn hM
  refine am_ev.kc 1 109 [.ref 123, .int x1, .int x2, .long l3, am_ju, .long l5, am_ju, .int s0] [] (zl sn sx, xa xm T D r B (xb ((vp_updL (vp_updL (mv_aims V) ((1 : Int32)).toNatClampNeg ((r3 ||| (-72057594037927681 : Int64)) ||| r4)) ((2 : Int32)).toNatClampNeg r5), (mv_hiding V)) L F R S P), M, q) c2 (fun _ _ => rfl) ?_
  obtain ⟨c3, hM⟩ := am_ifn hM
  refine am_ev.kc 5 116 [.ref 123, .int x1, .int x2, .long l3, am_ju, .long l5, am_ju, .int s0] [] (zl sn sx, xa xm T D r B (xb ((vp_updL (vp_updL (vp_updL (mv_aims V) ((1 : Int32)).toNatClampNeg ((r3 ||| (-72057594037927681 : Int64)) ||| r4)) ((2 : Int32)).toNatClampNeg r5) ((3 : Int32)).toNatClampNeg l3), (mv_hiding V)) L F R S P), M, q) c3 (fun _ _ => rfl) ?_
  obtain ⟨c4, hM⟩ := am_ifn hM
  refine am_ev.kc 5 124 [.ref 123, .int x1, .int x2, .long l3, am_ju, .long l5, am_ju, .int s0] [] (zl sn sx, xa xm T D r B (xb ((vp_updL (vp_updL (vp_updL (vp_updL (mv_aims V) ((1 : Int32)).toNatClampNeg ((r3 ||| (-72057594037927681 : Int64)) ||| r4)) ((2 : Int32)).toNatClampNeg r5) ((3 : Int32)).toNatClampNeg l3) ((4 : Int32)).toNatClampNeg l5), (mv_hiding V)) L F R S P), M, q) c4 (fun _ _ => rfl) ?_
  obtain ⟨c5, hM⟩ := am_ifn hM
  refine am_ev.kc 7 134 [.ref 123, .int x1, .int x2, .long l3, am_ju, .long l5, am_ju, .int s0] [] (zl sn sx, xa xm T D r B (xb ((vp_updL (vp_updL (vp_updL (vp_updL (vp_updL (mv_aims V) ((1 : Int32)).toNatClampNeg ((r3 ||| (-72057594037927681 : Int64)) ||| r4)) ((2 : Int32)).toNatClampNeg r5) ((3 : Int32)).toNatClampNeg l3) ((4 : Int32)).toNatClampNeg l5) ((5 : Int32)).toNatClampNeg (l3 ||| l5)), (mv_hiding V)) L F R S P), M, q) c5 (fun _ _ => rfl) ?_
  obtain ⟨c6, hM⟩ := am_ifn hM
  refine am_ev.kc 5 144 [.ref 123, .int x1, .int x2, .long l3, am_ju, .long l5, am_ju, .int s0] [] (zl sn sx, xa xm T D r B (xb ((vp_updL (vp_updL (vp_updL (vp_updL (vp_updL (vp_updL (mv_aims V) ((1 : Int32)).toNatClampNeg ((r3 ||| (-72057594037927681 : Int64)) ||| r4)) ((2 : Int32)).toNatClampNeg r5) ((3 : Int32)).toNatClampNeg l3) ((4 : Int32)).toNatClampNeg l5) ((5 : Int32)).toNatClampNeg (l3 ||| l5)) ((6 : Int32)).toNatClampNeg (4899916394579099716 : Int64)), (mv_hiding V)) L F R S P), M, q) c6 (fun _ _ => rfl) ?_
  obtain ⟨rr, hc, hM⟩ := am_bind hM
  obtain ⟨r6, rfl⟩ : ∃ z, z = rr := ⟨_, rfl⟩
  refine am_ev.kg 5 (pc' := 151) (lv' := [.ref 123, .int x1, .int x2, .long l3, am_ju, .long l5, am_ju, .int s0]) (st' := [.int x1, .int x2, .ref 114, .ref 123]) (h' := (zl sn sx, xa xm T D r B (xb ((vp_updL (vp_updL (vp_updL (vp_updL (vp_updL (vp_updL (mv_aims V) ((1 : Int32)).toNatClampNeg ((r3 ||| (-72057594037927681 : Int64)) ||| r4)) ((2 : Int32)).toNatClampNeg r5) ((3 : Int32)).toNatClampNeg l3) ((4 : Int32)).toNatClampNeg l5) ((5 : Int32)).toNatClampNeg (l3 ||| l5)) ((6 : Int32)).toNatClampNeg (4899916394579099716 : Int64)), (mv_hiding V)) L F R S P), M, q)) (fun _ _ => rfl) ?_
  refine am_ev.call rfl rfl rfl ((s_Board_shields_B hc).mono (by decide)) ?_
  show am_ev _ k_Mover_takeAim (154, [.ref 123, .int x1, .int x2, .long l3, am_ju, .long l5, am_ju, .int s0], [.long r6, .ref 123], (zl sn sx, xa xm T D r B (xb ((vp_updL (vp_updL (vp_updL (vp_updL (vp_updL (vp_updL (mv_aims V) ((1 : Int32)).toNatClampNeg ((r3 ||| (-72057594037927681 : Int64)) ||| r4)) ((2 : Int32)).toNatClampNeg r5) ((3 : Int32)).toNatClampNeg l3) ((4 : Int32)).toNatClampNeg l5) ((5 : Int32)).toNatClampNeg (l3 ||| l5)) ((6 : Int32)).toNatClampNeg (4899916394579099716 : Int64)), (mv_hiding V)) L F R S P), M, q)) oo
  cases hM
  cases hx
  exact am_ev.kf 2 (fun _ _ => rfl)
theorem se_Mover_takeAim {fu : Nat} {sn : Nat} {sx : Nat → Int32} {M : List am_C} {q : Nat × Nat} {T : TxT} {D : BdT} {r : RdT} {B : BdT} {V : MvT} {L : RwT} {F : RwT} {R : Nat → RwT} {S : SoT} {P : HeT} {oo : am_O} {e : MvT} (hx : y_Mover_takeAim sn sx M q T D r B L F R S P oo e) (hM : f_Mover_takeAim fu B V = some e) : am_ev 2 k_Mover_takeAim (0, [.ref 123, am_ju, am_ju, am_ju, am_ju, am_ju, am_ju, am_ju], [], (zl sn sx, xa xm T D r B (xb V L F R S P), M, q)) oo := by
  unfold f_Mover_takeAim at hM
  obtain ⟨c7, hM⟩ := am_ifn hM
  refine am_ev.kc 11 19 [.ref 123, .int (bd_side B), am_ju, am_ju, am_ju, am_ju, am_ju, am_ju] [.int ((bd_kings B) (((1 : Int32) - (bd_side B))).toNatClampNeg)] (zl sn sx, xa xm T D r B (xb V L F R S P), M, q) c7 (fun _ _ => rfl) ?_
  obtain ⟨rr, hc, hM⟩ := am_bind hM
  obtain ⟨r1, rfl⟩ : ∃ z, z = rr := ⟨_, rfl⟩
  refine am_ev.kg 7 (pc' := 30) (lv' := [.ref 123, .int (bd_side B), .int ((bd_kings B) (((1 : Int32) - (bd_side B))).toNatClampNeg), am_ju, am_ju, am_ju, am_ju, am_ju]) (st' := [.int (7 : Int32), .int (8 : Int32), .int (4 : Int32), .int ((bd_kings B) (((1 : Int32) - (bd_side B))).toNatClampNeg), .ref 114]) (h' := (zl sn sx, xa xm T D r B (xb V L F R S P), M, q)) (fun _ _ => rfl) ?_
  refine am_ev.call rfl rfl rfl ((s_Board_seen_B hc).mono (by decide)) ?_
  show am_ev _ k_Mover_takeAim (33, [.ref 123, .int (bd_side B), .int ((bd_kings B) (((1 : Int32) - (bd_side B))).toNatClampNeg), am_ju, am_ju, am_ju, am_ju, am_ju], [.long r1], (zl sn sx, xa xm T D r B (xb V L F R S P), M, q)) oo
  obtain ⟨rr, hc, hM⟩ := am_bind hM
  obtain ⟨r2, rfl⟩ : ∃ z, z = rr := ⟨_, rfl⟩
  refine am_ev.kg 7 (pc' := 43) (lv' := [.ref 123, .int (bd_side B), .int ((bd_kings B) (((1 : Int32) - (bd_side B))).toNatClampNeg), .long r1, am_ju, am_ju, am_ju, am_ju]) (st' := [.int (7 : Int32), .int (4 : Int32), .int (0 : Int32), .int ((bd_kings B) (((1 : Int32) - (bd_side B))).toNatClampNeg), .ref 114]) (h' := (zl sn sx, xa xm T D r B (xb V L F R S P), M, q)) (fun _ _ => rfl) ?_
  refine am_ev.call rfl rfl rfl ((s_Board_seen_B hc).mono (by decide)) ?_
  show am_ev _ k_Mover_takeAim (46, [.ref 123, .int (bd_side B), .int ((bd_kings B) (((1 : Int32) - (bd_side B))).toNatClampNeg), .long r1, am_ju, am_ju, am_ju, am_ju], [.long r2], (zl sn sx, xa xm T D r B (xb V L F R S P), M, q)) oo
  rcases am_if hM with ⟨c8, hM⟩ | ⟨c8, hM⟩
  · refine am_ev.kt 3 57 52 [.ref 123, .int (bd_side B), .int ((bd_kings B) (((1 : Int32) - (bd_side B))).toNatClampNeg), .long r1, am_ju, .long r2, am_ju, am_ju] [] (zl sn sx, xa xm T D r B (xb V L F R S P), M, q) c8 (fun _ _ => rfl) ?_
    refine am_ev.kg 1 (pc' := 58) (lv' := [.ref 123, .int (bd_side B), .int ((bd_kings B) (((1 : Int32) - (bd_side B))).toNatClampNeg), .long r1, am_ju, .long r2, am_ju, am_ju]) (st' := [.int (4 : Int32)]) (h' := (zl sn sx, xa xm T D r B (xb V L F R S P), M, q)) (fun _ _ => rfl) ?_
    exact sj_Mover_takeAim_58 hx hM
  · refine am_ev.ke 3 57 52 [.ref 123, .int (bd_side B), .int ((bd_kings B) (((1 : Int32) - (bd_side B))).toNatClampNeg), .long r1, am_ju, .long r2, am_ju, am_ju] [] (zl sn sx, xa xm T D r B (xb V L F R S P), M, q) c8 (fun _ _ => rfl) ?_
    refine am_ev.kg 2 (pc' := 58) (lv' := [.ref 123, .int (bd_side B), .int ((bd_kings B) (((1 : Int32) - (bd_side B))).toNatClampNeg), .long r1, am_ju, .long r2, am_ju, am_ju]) (st' := [.int (6 : Int32)]) (h' := (zl sn sx, xa xm T D r B (xb V L F R S P), M, q)) (fun _ _ => rfl) ?_
    exact sj_Mover_takeAim_58 hx hM
theorem s_Mover_takeAim {fu : Nat} {sn : Nat} {sx : Nat → Int32} {M : List am_C} {q : Nat × Nat} {T : TxT} {D : BdT} {r : RdT} {B : BdT} {V : MvT} {L : RwT} {F : RwT} {R : Nat → RwT} {S : SoT} {P : HeT} {oV : MvT} (hM : f_Mover_takeAim fu B V = some oV) : am_cv 3 k_Mover_takeAim [.ref 123] (zl sn sx, xa xm T D r B (xb V L F R S P), M, q) (.inl none, (zl sn sx, xa xm T D r B (xb oV L F R S P), M, q)) := am_cv.of rfl (se_Mover_takeAim (e := oV) (show y_Mover_takeAim sn sx M q T D r B L F R S P _ oV from rfl) hM)
