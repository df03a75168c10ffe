def y_MoveRow_addAll_R2 (sn : Nat) (sx : Nat → Int32) (M : List am_C) (q : Nat × Nat) (T : TxT) (D : BdT) (r : RdT) (B : BdT) (V : MvT) (L : RwT) (F : RwT) (R : Nat → RwT) (S : SoT) (P : HeT) (oo : am_O) : RwT → Prop
  | ow => oo = (.inl none, (zl sn sx, xa xm T D r B (xb V L F (va_up R ((2 : Int32)).toNatClampNeg ow) S P), M, q))
def x_MoveRow_addAll_R2_77 (sn : Nat) (sx : Nat → Int32) (M : List am_C) (q : Nat × Nat) (T : TxT) (D : BdT) (r : RdT) (B : BdT) (V : MvT) (L : RwT) (F : RwT) (R : Nat → RwT) (S : SoT) (P : HeT) (x1 : Int32) (x4 : Int32) (l5 : Int64) (x7 : Int32) (x10 : Int32) (oo : am_O) : (RwT) → Prop
  | w => am_ev 2 k_MoveRow_addAll (102, [.ref 134, .int x1, am_ju, am_ju, .int x4, .long l5, am_ju, .int x7, am_ju, am_ju, am_ju, am_ju], [], (zl sn sx, xa xm T D r B (xb V L F (va_up R ((2 : Int32)).toNatClampNeg w) S P), M, q)) oo
def x_MoveRow_addAll_R2_6 (sn : Nat) (sx : Nat → Int32) (M : List am_C) (q : Nat × Nat) (T : TxT) (D : BdT) (r : RdT) (B : BdT) (V : MvT) (L : RwT) (F : RwT) (R : Nat → RwT) (S : SoT) (P : HeT) (x1 : Int32) (x4 : Int32) (oo : am_O) : RwT → Prop
  | ow => oo = (.inl none, (zl sn sx, xa xm T D r B (xb V L F (va_up R ((2 : Int32)).toNatClampNeg ow) S P), M, q))
theorem sb_MoveRow_addAll_R2_77 {fu : Nat} {sn : Nat} {sx : Nat → Int32} {M : List am_C} {q : Nat × Nat} {T : TxT} {D : BdT} {r : RdT} {B : BdT} {V : MvT} {L : RwT} {F : RwT} {R : Nat → RwT} {S : SoT} {P : HeT} {x1 : Int32} {x4 : Int32} {l5 : Int64} {x7 : Int32} {x10 : Int32} {oo : am_O} {e : (RwT)} {gg : Int32 → RwT → Option ((RwT))} (hx : x_MoveRow_addAll_R2_77 sn sx M q T D r B V L F R S P x1 x4 l5 x7 x10 oo e) (hg : ∀ (x11 : Int32) (w : RwT), gg x11 w = some e → am_ev 2 k_MoveRow_addAll (77, [.ref 134, .int x1, am_ju, am_ju, .int x4, .long l5, am_ju, .int x7, am_ju, am_ju, .int x10, .int x11], [], (zl sn sx, xa xm T D r B (xb V L F (va_up R ((2 : Int32)).toNatClampNeg w) S P), M, q)) oo) {x11 : Int32} {w : RwT} (hM : b_MoveRow_addAll_77 fu x1 x4 l5 x7 x10 gg x11 w = some e) : am_ev 2 k_MoveRow_addAll (77, [.ref 134, .int x1, am_ju, am_ju, .int x4, .long l5, am_ju, .int x7, am_ju, am_ju, .int x10, .int x11], [], (zl sn sx, xa xm T D r B (xb V L F (va_up R ((2 : Int32)).toNatClampNeg w) S P), M, q)) oo := by
  unfold b_MoveRow_addAll_77 at hM
  rcases am_if hM with ⟨c1, hM⟩ | ⟨c1, hM⟩
  · refine am_ev.kt 3 102 83 [.ref 134, .int x1, am_ju, am_ju, .int x4, .long l5, am_ju, .int x7, am_ju, am_ju, .int x10, .int x11] [] (zl sn sx, xa xm T D r B (xb V L F (va_up R ((2 : Int32)).toNatClampNeg w) S P), M, q) c1 (fun _ _ => rfl) ?_
    refine am_ev.wk (lv' := [.ref 134, .int x1, am_ju, am_ju, .int x4, .long l5, am_ju, .int x7, am_ju, am_ju, am_ju, am_ju]) (am_lc (Or.inr rfl) (am_lc (Or.inr rfl) (am_lc (Or.inr rfl) (am_lc (Or.inr rfl) (am_lc (Or.inr rfl) (am_lc (Or.inr rfl) (am_lc (Or.inr rfl) (am_lc (Or.inr rfl) (am_lc (Or.inr rfl) (am_lc (Or.inr rfl) (am_lc (Or.inl rfl) (am_lc (Or.inl rfl) am_ln)))))))))))) ?_
    cases hM
    exact hx
  · refine am_ev.ke 3 102 83 [.ref 134, .int x1, am_ju, am_ju, .int x4, .long l5, am_ju, .int x7, am_ju, am_ju, .int x10, .int x11] [] (zl sn sx, xa xm T D r B (xb V L F (va_up R ((2 : Int32)).toNatClampNeg w) S P), M, q) c1 (fun _ _ => rfl) ?_
    obtain ⟨rr, hc, hM⟩ := am_bind hM
    obtain ⟨wg3, rfl⟩ : ∃ z, z = rr := ⟨_, rfl⟩
    refine am_ev.kg 6 (pc' := 93) (lv' := [.ref 134, .int x1, am_ju, am_ju, .int x4, .long l5, am_ju, .int x7, am_ju, am_ju, .int x10, .int x11]) (st' := [.int (x10 + ((4096 : Int32) * x11)), .ref 134]) (h' := (zl sn sx, xa xm T D r B (xb V L F (va_up R ((2 : Int32)).toNatClampNeg w) S P), M, q)) (fun _ _ => rfl) ?_
    refine am_ev.call rfl rfl rfl ((s_MoveRow_add_R2 hc).mono (by decide)) ?_
    show am_ev _ k_MoveRow_addAll (96, [.ref 134, .int x1, am_ju, am_ju, .int x4, .long l5, am_ju, .int x7, am_ju, am_ju, .int x10, .int x11], [], (zl sn sx, xa xm T D r B (xb V L F (va_up R ((2 : Int32)).toNatClampNeg wg3) S P), M, q)) oo
    refine am_ev.kg 2 (pc' := 77) (lv' := [.ref 134, .int x1, am_ju, am_ju, .int x4, .long l5, am_ju, .int x7, am_ju, am_ju, .int x10, .int (x11 + (1 : Int32))]) (st' := []) (h' := (zl sn sx, xa xm T D r B (xb V L F (va_up R ((2 : Int32)).toNatClampNeg wg3) S P), M, q)) (fun _ _ => rfl) ?_
    exact hg _ _ hM
theorem sl_MoveRow_addAll_R2_77 {fu : Nat} {sn : Nat} {sx : Nat → Int32} {M : List am_C} {q : Nat × Nat} {T : TxT} {D : BdT} {r : RdT} {B : BdT} {V : MvT} {L : RwT} {F : RwT} {R : Nat → RwT} {S : SoT} {P : HeT} {x1 : Int32} {x4 : Int32} {l5 : Int64} {x7 : Int32} {x10 : Int32} {oo : am_O} {e : (RwT)} (hx : x_MoveRow_addAll_R2_77 sn sx M q T D r B V L F R S P x1 x4 l5 x7 x10 oo e) : ∀ (n : Nat) (x11 : Int32) (w : RwT), l_MoveRow_addAll_77 fu x1 x4 l5 x7 x10 n x11 w = some e → am_ev 2 k_MoveRow_addAll (77, [.ref 134, .int x1, am_ju, am_ju, .int x4, .long l5, am_ju, .int x7, am_ju, am_ju, .int x10, .int x11], [], (zl sn sx, xa xm T D r B (xb V L F (va_up R ((2 : Int32)).toNatClampNeg w) S P), M, q)) oo
  | 0, _, _, hM => by have h : (none : Option ((RwT))) = some e := hM; cases h
  | n + 1, _, _, hM => sb_MoveRow_addAll_R2_77 hx (fun _ _ hM => sl_MoveRow_addAll_R2_77 hx n _ _ hM) hM
theorem sj_MoveRow_addAll_R2_102 {fu : Nat} {sn : Nat} {sx : Nat → Int32} {M : List am_C} {q : Nat × Nat} {T : TxT} {D : BdT} {r : RdT} {B : BdT} {V : MvT} {L : RwT} {F : RwT} {R : Nat → RwT} {S : SoT} {P : HeT} {w : RwT} {x1 : Int32} {x4 : Int32} {l5 : Int64} {x7 : Int32} {oo : am_O} {e : RwT} {gg : Int64 → Int32 → RwT → Option (RwT)} (hx : x_MoveRow_addAll_R2_6 sn sx M q T D r B V L F R S P x1 x4 oo e) (hg : ∀ (l5 : Int64) (x7 : Int32) (w : RwT), gg l5 x7 w = some e → am_ev 2 k_MoveRow_addAll (6, [.ref 134, .int x1, am_ju, am_ju, .int x4, .long l5, am_ju, .int x7, am_ju, am_ju, am_ju, am_ju], [], (zl sn sx, xa xm T D r B (xb V L F (va_up R ((2 : Int32)).toNatClampNeg w) S P), M, q)) oo) (hM : j_MoveRow_addAll_102 fu gg w x1 x4 l5 x7 = some e) : am_ev 2 k_MoveRow_addAll (102, [.ref 134, .int x1, am_ju, am_ju, .int x4, .long l5, am_ju, .int x7, am_ju, am_ju, am_ju, am_ju], [], (zl sn sx, xa xm T D r B (xb V L F (va_up R ((2 : Int32)).toNatClampNeg w) S P), M, q)) oo := by
  unfold j_MoveRow_addAll_102 at hM
  refine am_ev.kg 2 (pc' := 6) (lv' := [.ref 134, .int x1, am_ju, am_ju, .int x4, .long l5, am_ju, .int (x7 + (1 : Int32)), am_ju, am_ju, am_ju, am_ju]) (st' := []) (h' := (zl sn sx, xa xm T D r B (xb V L F (va_up R ((2 : Int32)).toNatClampNeg w) S P), M, q)) (fun _ _ => rfl) ?_
  exact hg _ _ _ hM
theorem sj_MoveRow_addAll_R2_65 {fu : Nat} {sn : Nat} {sx : Nat → Int32} {M : List am_C} {q : Nat × Nat} {T : TxT} {D : BdT} {r : RdT} {B : BdT} {V : MvT} {L : RwT} {F : RwT} {R : Nat → RwT} {S : SoT} {P : HeT} {w : RwT} {x1 : Int32} {x4 : Int32} {l5 : Int64} {x7 : Int32} {x10 : Int32} {oo : am_O} {e : RwT} {gg : Int64 → Int32 → RwT → Option (RwT)} (hx : x_MoveRow_addAll_R2_6 sn sx M q T D r B V L F R S P x1 x4 oo e) (hg : ∀ (l5 : Int64) (x7 : Int32) (w : RwT), gg l5 x7 w = some e → am_ev 2 k_MoveRow_addAll (6, [.ref 134, .int x1, am_ju, am_ju, .int x4, .long l5, am_ju, .int x7, am_ju, am_ju, am_ju, am_ju], [], (zl sn sx, xa xm T D r B (xb V L F (va_up R ((2 : Int32)).toNatClampNeg w) S P), M, q)) oo) (hM : j_MoveRow_addAll_65 fu gg w x1 x4 l5 x7 x10 = some e) : am_ev 2 k_MoveRow_addAll (65, [.ref 134, .int x1, am_ju, am_ju, .int x4, .long l5, am_ju, .int x7, am_ju, am_ju, .int x10, am_ju], [], (zl sn sx, xa xm T D r B (xb V L F (va_up R ((2 : Int32)).toNatClampNeg w) S P), M, q)) oo := by
  unfold j_MoveRow_addAll_65 at hM
  obtain ⟨rr, hc, hM⟩ := am_bind hM
  obtain ⟨wg2, rfl⟩ : ∃ z, z = rr := ⟨_, rfl⟩
  refine am_ev.kg 2 (pc' := 68) (lv' := [.ref 134, .int x1, am_ju, am_ju, .int x4, .long l5, am_ju, .int x7, am_ju, am_ju, .int x10, am_ju]) (st' := [.int x10, .ref 134]) (h' := (zl sn sx, xa xm T D r B (xb V L F (va_up R ((2 : Int32)).toNatClampNeg w) S P), M, q)) (fun _ _ => rfl) ?_
  refine am_ev.call rfl rfl rfl ((s_MoveRow_add_R2 hc).mono (by decide)) ?_
  show am_ev _ k_MoveRow_addAll (71, [.ref 134, .int x1, am_ju, am_ju, .int x4, .long l5, am_ju, .int x7, am_ju, am_ju, .int x10, am_ju], [], (zl sn sx, xa xm T D r B (xb V L F (va_up R ((2 : Int32)).toNatClampNeg wg2) S P), M, q)) oo
  refine am_ev.kg 1 (pc' := 102) (lv' := [.ref 134, .int x1, am_ju, am_ju, .int x4, .long l5, am_ju, .int x7, am_ju, am_ju, .int x10, am_ju]) (st' := []) (h' := (zl sn sx, xa xm T D r B (xb V L F (va_up R ((2 : Int32)).toNatClampNeg wg2) S P), M, q)) (fun _ _ => rfl) ?_
  refine am_ev.wk (lv' := [.ref 134, .int x1, am_ju, am_ju, .int x4, .long l5, am_ju, .int x7, am_ju, am_ju, am_ju, am_ju]) (am_lc (Or.inr rfl) (am_lc (Or.inr rfl) (am_lc (Or.inr rfl) (am_lc (Or.inr rfl) (am_lc (Or.inr rfl) (am_lc (Or.inr rfl) (am_lc (Or.inr rfl) (am_lc (Or.inr rfl) (am_lc (Or.inr rfl) (am_lc (Or.inr rfl) (am_lc (Or.inl rfl) (am_lc (Or.inr rfl) am_ln)))))))))))) ?_
  exact sj_MoveRow_addAll_R2_102 hx hg hM
theorem sb_MoveRow_addAll_R2_6 {fu : Nat} {sn : Nat} {sx : Nat → Int32} {M : List am_C} {q : Nat × Nat} {T : TxT} {D : BdT} {r : RdT} {B : BdT} {V : MvT} {L : RwT} {F : RwT} {R : Nat → RwT} {S : SoT} {P : HeT} {x1 : Int32} {x4 : Int32} {oo : am_O} {e : RwT} {gg : Int64 → Int32 → RwT → Option (RwT)} (hx : x_MoveRow_addAll_R2_6 sn sx M q T D r B V L F R S P x1 x4 oo e) (hg : ∀ (l5 : Int64) (x7 : Int32) (w : RwT), gg l5 x7 w = some e → am_ev 2 k_MoveRow_addAll (6, [.ref 134, .int x1, am_ju, am_ju, .int x4, .long l5, am_ju, .int x7, am_ju, am_ju, am_ju, am_ju], [], (zl sn sx, xa xm T D r B (xb V L F (va_up R ((2 : Int32)).toNatClampNeg w) S P), M, q)) oo) {l5 : Int64} {x7 : Int32} {w : RwT} (hM : b_MoveRow_addAll_6 fu x1 x4 gg l5 x7 w = some e) : am_ev 2 k_MoveRow_addAll (6, [.ref 134, .int x1, am_ju, am_ju, .int x4, .long l5, am_ju, .int x7, am_ju, am_ju, am_ju, am_ju], [], (zl sn sx, xa xm T D r B (xb V L F (va_up R ((2 : Int32)).toNatClampNeg w) S P), M, q)) oo := by
  unfold b_MoveRow_addAll_6 at hM
  rcases am_if hM with ⟨c2, hM⟩ | ⟨c2, hM⟩
  · refine am_ev.kt 3 108 13 [.ref 134, .int x1, am_ju, am_ju, .int x4, .long l5, am_ju, .int x7, am_ju, am_ju, am_ju, am_ju] [] (zl sn sx, xa xm T D r B (xb V L F (va_up R ((2 : Int32)).toNatClampNeg w) S P), M, q) c2 (fun _ _ => rfl) ?_
    cases hM
    cases hx
    exact am_ev.kf 1 (fun _ _ => rfl)
  · refine am_ev.ke 3 108 13 [.ref 134, .int x1, am_ju, am_ju, .int x4, .long l5, am_ju, .int x7, am_ju, am_ju, am_ju, am_ju] [] (zl sn sx, xa xm T D r B (xb V L F (va_up R ((2 : Int32)).toNatClampNeg w) S P), M, q) c2 (fun _ _ => rfl) ?_
    rcases am_if hM with ⟨c3, hM⟩ | ⟨c3, hM⟩
    · refine am_ev.kt 4 108 20 [.ref 134, .int x1, am_ju, am_ju, .int x4, .long l5, am_ju, .int x7, am_ju, am_ju, am_ju, am_ju] [] (zl sn sx, xa xm T D r B (xb V L F (va_up R ((2 : Int32)).toNatClampNeg w) S P), M, q) c3 (fun _ _ => rfl) ?_
      cases hM
      cases hx
      exact am_ev.kf 1 (fun _ _ => rfl)
    · refine am_ev.ke 4 108 20 [.ref 134, .int x1, am_ju, am_ju, .int x4, .long l5, am_ju, .int x7, am_ju, am_ju, am_ju, am_ju] [] (zl sn sx, xa xm T D r B (xb V L F (va_up R ((2 : Int32)).toNatClampNeg w) S P), M, q) c3 (fun _ _ => rfl) ?_
      obtain ⟨rr, hc, hM⟩ := am_bind hM
      obtain ⟨r1, rfl⟩ : ∃ z, z = rr := ⟨_, rfl⟩
      refine am_ev.kg 14 (pc' := 42) (lv' := [.ref 134, .int x1, am_ju, am_ju, .int x4, .long (l5 ^^^ (l5 &&& (-l5))), am_ju, .int x7, .long (l5 &&& (-l5)), am_ju, am_ju, am_ju]) (st' := [.long ((l5 &&& (-l5)) - (1 : Int64)), .int (64 : Int32), .int x1]) (h' := (zl sn sx, xa xm T D r B (xb V L F (va_up R ((2 : Int32)).toNatClampNeg w) S P), M, q)) (fun _ _ => rfl) ?_
      refine am_ev.call rfl rfl rfl ((s_Long_bitCount hc).mono (by decide)) ?_
      show am_ev _ k_MoveRow_addAll (45, [.ref 134, .int x1, am_ju, am_ju, .int x4, .long (l5 ^^^ (l5 &&& (-l5))), am_ju, .int x7, .long (l5 &&& (-l5)), am_ju, am_ju, am_ju], [.int r1, .int (64 : Int32), .int x1], (zl sn sx, xa xm T D r B (xb V L F (va_up R ((2 : Int32)).toNatClampNeg w) S P), M, q)) oo
      rcases am_if hM with ⟨c4, hM⟩ | ⟨c4, hM⟩
      · refine am_ev.kt 5 65 54 [.ref 134, .int x1, am_ju, am_ju, .int x4, .long (l5 ^^^ (l5 &&& (-l5))), am_ju, .int x7, .long (l5 &&& (-l5)), am_ju, .int (x1 + ((64 : Int32) * r1)), am_ju] [] (zl sn sx, xa xm T D r B (xb V L F (va_up R ((2 : Int32)).toNatClampNeg w) S P), M, q) c4 (fun _ _ => rfl) ?_
        refine am_ev.wk (lv' := [.ref 134, .int x1, am_ju, am_ju, .int x4, .long (l5 ^^^ (l5 &&& (-l5))), am_ju, .int x7, am_ju, am_ju, .int (x1 + ((64 : Int32) * r1)), am_ju]) (am_lc (Or.inr rfl) (am_lc (Or.inr rfl) (am_lc (Or.inr rfl) (am_lc (Or.inr rfl) (am_lc (Or.inr rfl) (am_lc (Or.inr rfl) (am_lc (Or.inr rfl) (am_lc (Or.inr rfl) (am_lc (Or.inl rfl) (am_lc (Or.inr rfl) (am_lc (Or.inr rfl) (am_lc (Or.inr rfl) am_ln)))))))))))) ?_
        exact sj_MoveRow_addAll_R2_65 hx hg hM
      · refine am_ev.ke 5 65 54 [.ref 134, .int x1, am_ju, am_ju, .int x4, .long (l5 ^^^ (l5 &&& (-l5))), am_ju, .int x7, .long (l5 &&& (-l5)), am_ju, .int (x1 + ((64 : Int32) * r1)), am_ju] [] (zl sn sx, xa xm T D r B (xb V L F (va_up R ((2 : Int32)).toNatClampNeg w) S P), M, q) c4 (fun _ _ => rfl) ?_
        rcases am_if hM with ⟨c5, hM⟩ | ⟨c5, hM⟩
        · refine am_ev.kt 6 74 65 [.ref 134, .int x1, am_ju, am_ju, .int x4, .long (l5 ^^^ (l5 &&& (-l5))), am_ju, .int x7, .long (l5 &&& (-l5)), am_ju, .int (x1 + ((64 : Int32) * r1)), am_ju] [] (zl sn sx, xa xm T D r B (xb V L F (va_up R ((2 : Int32)).toNatClampNeg w) S P), M, q) c5 (fun _ _ => rfl) ?_
          refine am_ev.kg 2 (pc' := 77) (lv' := [.ref 134, .int x1, am_ju, am_ju, .int x4, .long (l5 ^^^ (l5 &&& (-l5))), am_ju, .int x7, .long (l5 &&& (-l5)), am_ju, .int (x1 + ((64 : Int32) * r1)), .int (2 : Int32)]) (st' := []) (h' := (zl sn sx, xa xm T D r B (xb V L F (va_up R ((2 : Int32)).toNatClampNeg w) S P), M, q)) (fun _ _ => rfl) ?_
          refine am_ev.wk (lv' := [.ref 134, .int x1, am_ju, am_ju, .int x4, .long (l5 ^^^ (l5 &&& (-l5))), am_ju, .int x7, am_ju, am_ju, .int (x1 + ((64 : Int32) * r1)), .int (2 : Int32)]) (am_lc (Or.inr rfl) (am_lc (Or.inr rfl) (am_lc (Or.inr rfl) (am_lc (Or.inr rfl) (am_lc (Or.inr rfl) (am_lc (Or.inr rfl) (am_lc (Or.inr rfl) (am_lc (Or.inr rfl) (am_lc (Or.inl rfl) (am_lc (Or.inr rfl) (am_lc (Or.inr rfl) (am_lc (Or.inr rfl) am_ln)))))))))))) ?_
          obtain ⟨z, hz, hM⟩ := am_bind hM
          obtain ⟨wz_1, rfl⟩ : ∃ y, y = z := ⟨_, rfl⟩
          refine sl_MoveRow_addAll_R2_77 ?_ _ _ _ hz
          show am_ev 2 k_MoveRow_addAll (102, [.ref 134, .int x1, am_ju, am_ju, .int x4, .long (l5 ^^^ (l5 &&& (-l5))), am_ju, .int x7, am_ju, am_ju, am_ju, am_ju], [], (zl sn sx, xa xm T D r B (xb V L F (va_up R ((2 : Int32)).toNatClampNeg wz_1) S P), M, q)) oo
          exact sj_MoveRow_addAll_R2_102 hx hg hM
        · refine am_ev.ke 6 74 65 [.ref 134, .int x1, am_ju, am_ju, .int x4, .long (l5 ^^^ (l5 &&& (-l5))), am_ju, .int x7, .long (l5 &&& (-l5)), am_ju, .int (x1 + ((64 : Int32) * r1)), am_ju] [] (zl sn sx, xa xm T D r B (xb V L F (va_up R ((2 : Int32)).toNatClampNeg w) S P), M, q) c5 (fun _ _ => rfl) ?_
          refine am_ev.wk (lv' := [.ref 134, .int x1, am_ju, am_ju, .int x4, .long (l5 ^^^ (l5 &&& (-l5))), am_ju, .int x7, am_ju, am_ju, .int (x1 + ((64 : Int32) * r1)), am_ju]) (am_lc (Or.inr rfl) (am_lc (Or.inr rfl) (am_lc (Or.inr rfl) (am_lc (Or.inr rfl) (am_lc (Or.inr rfl) (am_lc (Or.inr rfl) (am_lc (Or.inr rfl) (am_lc (Or.inr rfl) (am_lc (Or.inl rfl) (am_lc (Or.inr rfl) (am_lc (Or.inr rfl) (am_lc (Or.inr rfl) am_ln)))))))))))) ?_
          exact sj_MoveRow_addAll_R2_65 hx hg hM
theorem sl_MoveRow_addAll_R2_6 {fu : Nat} {sn : Nat} {sx : Nat → Int32} {M : List am_C} {q : Nat × Nat} {T : TxT} {D : BdT} {r : RdT} {B : BdT} {V : MvT} {L : RwT} {F : RwT} {R : Nat → RwT} {S : SoT} {P : HeT} {x1 : Int32} {x4 : Int32} {oo : am_O} {e : RwT} (hx : x_MoveRow_addAll_R2_6 sn sx M q T D r B V L F R S P x1 x4 oo e) : ∀ (n : Nat) (l5 : Int64) (x7 : Int32) (w : RwT), l_MoveRow_addAll_6 fu x1 x4 n l5 x7 w = some e → am_ev 2 k_MoveRow_addAll (6, [.ref 134, .int x1, am_ju, am_ju, .int x4, .long l5, am_ju, .int x7, am_ju, am_ju, am_ju, am_ju], [], (zl sn sx, xa xm T D r B (xb V L F (va_up R ((2 : Int32)).toNatClampNeg w) S P), M, q)) oo
  | 0, _, _, _, hM => by have h : (none : Option (RwT)) = some e := hM; cases h
  | n + 1, _, _, _, hM => sb_MoveRow_addAll_R2_6 hx (fun _ _ _ hM => sl_MoveRow_addAll_R2_6 hx n _ _ _ hM) hM
theorem se_MoveRow_addAll_R2 {fu : Nat} {sn : Nat} {sx : Nat → Int32} {M : List am_C} {q : Nat × Nat} {T : TxT} {D : BdT} {r : RdT} {B : BdT} {V : MvT} {L : RwT} {F : RwT} {R : Nat → RwT} {S : SoT} {P : HeT} {w : RwT} {x1 : Int32} {l2 : Int64} {x4 : Int32} {oo : am_O} {e : RwT} (hx : y_MoveRow_addAll_R2 sn sx M q T D r B V L F R S P oo e) (hM : f_MoveRow_addAll fu x1 l2 x4 w = some e) : am_ev 2 k_MoveRow_addAll (0, [.ref 134, .int x1, .long l2, am_ju, .int x4, am_ju, am_ju, am_ju, am_ju, am_ju, am_ju, am_ju], [], (zl sn sx, xa xm T D r B (xb V L F (va_up R ((2 : Int32)).toNatClampNeg w) S P), M, q)) oo := by
  unfold f_MoveRow_addAll at hM
  refine am_ev.kg 4 (pc' := 6) (lv' := [.ref 134, .int x1, .long l2, am_ju, .int x4, .long l2, am_ju, .int (0 : Int32), am_ju, am_ju, am_ju, am_ju]) (st' := []) (h' := (zl sn sx, xa xm T D r B (xb V L F (va_up R ((2 : Int32)).toNatClampNeg w) S P), M, q)) (fun _ _ => rfl) ?_
  refine am_ev.wk (lv' := [.ref 134, .int x1, am_ju, am_ju, .int x4, .long l2, am_ju, .int (0 : Int32), am_ju, am_ju, am_ju, am_ju]) (am_lc (Or.inr rfl) (am_lc (Or.inr rfl) (am_lc (Or.inl rfl) (am_lc (Or.inr rfl) (am_lc (Or.inr rfl) (am_lc (Or.inr rfl) (am_lc (Or.inr rfl) (am_lc (Or.inr rfl) (am_lc (Or.inr rfl) (am_lc (Or.inr rfl) (am_lc (Or.inr rfl) (am_lc (Or.inr rfl) am_ln)))))))))))) ?_
  refine sl_MoveRow_addAll_R2_6 ?_ _ _ _ _ hM
  exact hx
theorem s_MoveRow_addAll_R2 {fu : Nat} {sn : Nat} {sx : Nat → Int32} {M : List am_C} {q : Nat × Nat} {T : TxT} {D : BdT} {r : RdT} {B : BdT} {V : MvT} {L : RwT} {F : RwT} {R : Nat → RwT} {S : SoT} {P : HeT} {w : RwT} {x1 : Int32} {l2 : Int64} {x4 : Int32} {ow : RwT} (hM : f_MoveRow_addAll fu x1 l2 x4 w = some ow) : am_cv 3 k_MoveRow_addAll [.ref 134, .int x1, .long l2, .int x4] (zl sn sx, xa xm T D r B (xb V L F (va_up R ((2 : Int32)).toNatClampNeg w) S P), M, q) (.inl none, (zl sn sx, xa xm T D r B (xb V L F (va_up R ((2 : Int32)).toNatClampNeg ow) S P), M, q)) := am_cv.of rfl (se_MoveRow_addAll_R2 (e := ow) (show y_MoveRow_addAll_R2 sn sx M q T D r B V L F R S P _ ow from rfl) hM)
theorem s_MoveRow_addAll_R2x {fu : Nat} {sn : Nat} {sx : Nat → Int32} {M : List am_C} {q : Nat × Nat} {T : TxT} {D : BdT} {r : RdT} {B : BdT} {V : MvT} {L : RwT} {F : RwT} {R : Nat → RwT} {S : SoT} {P : HeT} {x1 : Int32} {l2 : Int64} {x4 : Int32} {ow : RwT} (hM : f_MoveRow_addAll fu x1 l2 x4 (R ((2 : Int32)).toNatClampNeg) = some ow) : am_cv 3 k_MoveRow_addAll [.ref 134, .int x1, .long l2, .int x4] (zl sn sx, xa xm T D r B (xb V L F R S P), M, q) (.inl none, (zl sn sx, xa xm T D r B (xb V L F (va_up R ((2 : Int32)).toNatClampNeg ow) S P), M, q)) := by
  have h := s_MoveRow_addAll_R2 (sn := sn) (sx := sx) (M := M) (q := q) (R := R) (w := R ((2 : Int32)).toNatClampNeg) (T := T) (D := D) (r := r) (B := B) (V := V) (L := L) (F := F) (S := S) (P := P) hM
  rw [am_ups] at h
  exact h
def y_Mover_fill_R2 (sn : Nat) (sx : Nat → Int32) (M : List am_C) (q : Nat × Nat) (T : TxT) (D : BdT) (r : RdT) (B : BdT) (V : MvT) (L : RwT) (F : RwT) (R : Nat → RwT) (S : SoT) (P : HeT) (oo : am_O) : RwT → Prop
  | ow => oo = (.inl none, (zl sn sx, xa xm T D r B (xb V L F (va_up R ((2 : Int32)).toNatClampNeg ow) S P), M, q))
def x_Mover_fill_R2_24 (sn : Nat) (sx : Nat → Int32) (M : List am_C) (q : Nat × Nat) (T : TxT) (D : BdT) (r : RdT) (B : BdT) (V : MvT) (L : RwT) (F : RwT) (R : Nat → RwT) (S : SoT) (P : HeT) (oo : am_O) : RwT → Prop
  | ow => oo = (.inl none, (zl sn sx, xa xm T D r B (xb V L F (va_up R ((2 : Int32)).toNatClampNeg ow) S P), M, q))
theorem sj_Mover_fill_R2_77 {fu : Nat} {sn : Nat} {sx : Nat → Int32} {M : List am_C} {q : Nat × Nat} {T : TxT} {D : BdT} {r : RdT} {B : BdT} {V : MvT} {L : RwT} {F : RwT} {R : Nat → RwT} {S : SoT} {P : HeT} {w : RwT} {l2 : Int64} {x4 : Int32} {s1 : Int32} {t2 : Int64} {s3 : Int32} {oo : am_O} {e : RwT} {gg : Int64 → Int32 → RwT → Option (RwT)} (hx : x_Mover_fill_R2_24 sn sx M q T D r B V L F R S P oo e) (hg : ∀ (l2 : Int64) (x4 : Int32) (w : RwT), gg l2 x4 w = some e → am_ev 4 k_Mover_fill (24, [.ref 123, .ref 134, .long l2, am_ju, .int x4, am_ju], [], (zl sn sx, xa xm T D r B (xb V L F (va_up R ((2 : Int32)).toNatClampNeg w) S P), M, q)) oo) (hM : j_Mover_fill_77 fu gg w B l2 x4 s1 t2 s3 = some e) : am_ev 4 k_Mover_fill (77, [.ref 123, .ref 134, .long l2, am_ju, .int x4, am_ju], [.int s3, .long t2, .int s1, .ref 134], (zl sn sx, xa xm T D r B (xb V L F (va_up R ((2 : Int32)).toNatClampNeg w) S P), M, q)) oo := by
  unfold j_Mover_fill_77 at hM
  obtain ⟨rr, hc, hM⟩ := am_bind hM
  obtain ⟨wg3, rfl⟩ : ∃ z, z = rr := ⟨_, rfl⟩
  refine am_ev.call rfl rfl rfl ((s_MoveRow_addAll_R2 hc).mono (by decide)) ?_
  show am_ev _ k_Mover_fill (80, [.ref 123, .ref 134, .long l2, am_ju, .int x4, am_ju], [], (zl sn sx, xa xm T D r B (xb V L F (va_up R ((2 : Int32)).toNatClampNeg wg3) S P), M, q)) oo
  refine am_ev.kg 2 (pc' := 24) (lv' := [.ref 123, .ref 134, .long l2, am_ju, .int (x4 + (1 : Int32)), am_ju]) (st' := []) (h' := (zl sn sx, xa xm T D r B (xb V L F (va_up R ((2 : Int32)).toNatClampNeg wg3) S P), M, q)) (fun _ _ => rfl) ?_
  exact hg _ _ _ hM
theorem sb_Mover_fill_R2_24 {fu : Nat} {sn : Nat} {sx : Nat → Int32} {M : List am_C} {q : Nat × Nat} {T : TxT} {D : BdT} {r : RdT} {B : BdT} {V : MvT} {L : RwT} {F : RwT} {R : Nat → RwT} {S : SoT} {P : HeT} {oo : am_O} {e : RwT} {gg : Int64 → Int32 → RwT → Option (RwT)} (hx : x_Mover_fill_R2_24 sn sx M q T D r B V L F R S P oo e) (hg : ∀ (l2 : Int64) (x4 : Int32) (w : RwT), gg l2 x4 w = some e → am_ev 4 k_Mover_fill (24, [.ref 123, .ref 134, .long l2, am_ju, .int x4, am_ju], [], (zl sn sx, xa xm T D r B (xb V L F (va_up R ((2 : Int32)).toNatClampNeg w) S P), M, q)) oo) {l2 : Int64} {x4 : Int32} {w : RwT} (hM : b_Mover_fill_24 fu B gg l2 x4 w = some e) : am_ev 4 k_Mover_fill (24, [.ref 123, .ref 134, .long l2, am_ju, .int x4, am_ju], [], (zl sn sx, xa xm T D r B (xb V L F (va_up R ((2 : Int32)).toNatClampNeg w) S P), M, q)) oo := by
  unfold b_Mover_fill_24 at hM
  rcases am_if hM with ⟨c1, hM⟩ | ⟨c1, hM⟩
  · refine am_ev.kt 3 86 31 [.ref 123, .ref 134, .long l2, am_ju, .int x4, am_ju] [] (zl sn sx, xa xm T D r B (xb V L F (va_up R ((2 : Int32)).toNatClampNeg w) S P), M, q) c1 (fun _ _ => rfl) ?_
    cases hM
    cases hx
    exact am_ev.kf 1 (fun _ _ => rfl)
  · refine am_ev.ke 3 86 31 [.ref 123, .ref 134, .long l2, am_ju, .int x4, am_ju] [] (zl sn sx, xa xm T D r B (xb V L F (va_up R ((2 : Int32)).toNatClampNeg w) S P), M, q) c1 (fun _ _ => rfl) ?_
    rcases am_if hM with ⟨c2, hM⟩ | ⟨c2, hM⟩
    · refine am_ev.kt 4 86 37 [.ref 123, .ref 134, .long l2, am_ju, .int x4, am_ju] [] (zl sn sx, xa xm T D r B (xb V L F (va_up R ((2 : Int32)).toNatClampNeg w) S P), M, q) c2 (fun _ _ => rfl) ?_
      cases hM
      cases hx
      exact am_ev.kf 1 (fun _ _ => rfl)
    · refine am_ev.ke 4 86 37 [.ref 123, .ref 134, .long l2, am_ju, .int x4, am_ju] [] (zl sn sx, xa xm T D r B (xb V L F (va_up R ((2 : Int32)).toNatClampNeg w) S P), M, q) c2 (fun _ _ => rfl) ?_
      obtain ⟨rr, hc, hM⟩ := am_bind hM
      obtain ⟨r1, rfl⟩ : ∃ z, z = rr := ⟨_, rfl⟩
      refine am_ev.kg 1 (pc' := 38) (lv' := [.ref 123, .ref 134, .long l2, am_ju, .int x4, am_ju]) (st' := [.long l2]) (h' := (zl sn sx, xa xm T D r B (xb V L F (va_up R ((2 : Int32)).toNatClampNeg w) S P), M, q)) (fun _ _ => rfl) ?_
      refine am_ev.call rfl rfl rfl ((s_Mover_lowest hc).mono (by decide)) ?_
      show am_ev _ k_Mover_fill (41, [.ref 123, .ref 134, .long l2, am_ju, .int x4, am_ju], [.int r1], (zl sn sx, xa xm T D r B (xb V L F (va_up R ((2 : Int32)).toNatClampNeg w) S P), M, q)) oo
      obtain ⟨rr, hc, hM⟩ := am_bind hM
      obtain ⟨r2, rfl⟩ : ∃ z, z = rr := ⟨_, rfl⟩
      refine am_ev.kg 11 (pc' := 55) (lv' := [.ref 123, .ref 134, .long (l2 &&& (l2 - (1 : Int64))), am_ju, .int x4, .int r1]) (st' := [.int r1, .ref 123, .int r1, .ref 134]) (h' := (zl sn sx, xa xm T D r B (xb V L F (va_up R ((2 : Int32)).toNatClampNeg w) S P), M, q)) (fun _ _ => rfl) ?_
      refine am_ev.call rfl rfl rfl ((s_Mover_targets hc).mono (by decide)) ?_
      show am_ev _ k_Mover_fill (58, [.ref 123, .ref 134, .long (l2 &&& (l2 - (1 : Int64))), am_ju, .int x4, .int r1], [.long r2, .int r1, .ref 134], (zl sn sx, xa xm T D r B (xb V L F (va_up R ((2 : Int32)).toNatClampNeg w) S P), M, q)) oo
      obtain ⟨c3, hM⟩ := am_ifn hM
      refine am_ev.kc 4 65 [.ref 123, .ref 134, .long (l2 &&& (l2 - (1 : Int64))), am_ju, .int x4, .int r1] [.int ((bd_men B) (r1).toNatClampNeg), .long r2, .int r1, .ref 134] (zl sn sx, xa xm T D r B (xb V L F (va_up R ((2 : Int32)).toNatClampNeg w) S P), M, q) c3 (fun _ _ => rfl) ?_
      rcases am_if hM with ⟨c4, hM⟩ | ⟨c4, hM⟩
      · refine am_ev.kt 4 76 72 [.ref 123, .ref 134, .long (l2 &&& (l2 - (1 : Int64))), am_ju, .int x4, .int r1] [.long r2, .int r1, .ref 134] (zl sn sx, xa xm T D r B (xb V L F (va_up R ((2 : Int32)).toNatClampNeg w) S P), M, q) c4 (fun _ _ => rfl) ?_
        refine am_ev.kg 1 (pc' := 77) (lv' := [.ref 123, .ref 134, .long (l2 &&& (l2 - (1 : Int64))), am_ju, .int x4, .int r1]) (st' := [.int (0 : Int32), .long r2, .int r1, .ref 134]) (h' := (zl sn sx, xa xm T D r B (xb V L F (va_up R ((2 : Int32)).toNatClampNeg w) S P), M, q)) (fun _ _ => rfl) ?_
        refine am_ev.wk (lv' := [.ref 123, .ref 134, .long (l2 &&& (l2 - (1 : Int64))), am_ju, .int x4, am_ju]) (am_lc (Or.inr rfl) (am_lc (Or.inr rfl) (am_lc (Or.inr rfl) (am_lc (Or.inr rfl) (am_lc (Or.inr rfl) (am_lc (Or.inl rfl) am_ln)))))) ?_
        exact sj_Mover_fill_R2_77 hx hg hM
      · refine am_ev.ke 4 76 72 [.ref 123, .ref 134, .long (l2 &&& (l2 - (1 : Int64))), am_ju, .int x4, .int r1] [.long r2, .int r1, .ref 134] (zl sn sx, xa xm T D r B (xb V L F (va_up R ((2 : Int32)).toNatClampNeg w) S P), M, q) c4 (fun _ _ => rfl) ?_
        refine am_ev.kg 2 (pc' := 77) (lv' := [.ref 123, .ref 134, .long (l2 &&& (l2 - (1 : Int64))), am_ju, .int x4, .int r1]) (st' := [.int (1 : Int32), .long r2, .int r1, .ref 134]) (h' := (zl sn sx, xa xm T D r B (xb V L F (va_up R ((2 : Int32)).toNatClampNeg w) S P), M, q)) (fun _ _ => rfl) ?_
        refine am_ev.wk (lv' := [.ref 123, .ref 134, .long (l2 &&& (l2 - (1 : Int64))), am_ju, .int x4, am_ju]) (am_lc (Or.inr rfl) (am_lc (Or.inr rfl) (am_lc (Or.inr rfl) (am_lc (Or.inr rfl) (am_lc (Or.inr rfl) (am_lc (Or.inl rfl) am_ln)))))) ?_
        exact sj_Mover_fill_R2_77 hx hg hM
theorem sl_Mover_fill_R2_24 {fu : Nat} {sn : Nat} {sx : Nat → Int32} {M : List am_C} {q : Nat × Nat} {T : TxT} {D : BdT} {r : RdT} {B : BdT} {V : MvT} {L : RwT} {F : RwT} {R : Nat → RwT} {S : SoT} {P : HeT} {oo : am_O} {e : RwT} (hx : x_Mover_fill_R2_24 sn sx M q T D r B V L F R S P oo e) : ∀ (n : Nat) (l2 : Int64) (x4 : Int32) (w : RwT), l_Mover_fill_24 fu B n l2 x4 w = some e → am_ev 4 k_Mover_fill (24, [.ref 123, .ref 134, .long l2, am_ju, .int x4, am_ju], [], (zl sn sx, xa xm T D r B (xb V L F (va_up R ((2 : Int32)).toNatClampNeg w) S P), M, q)) oo
  | 0, _, _, _, hM => by have h : (none : Option (RwT)) = some e := hM; cases h
  | n + 1, _, _, _, hM => sb_Mover_fill_R2_24 hx (fun _ _ _ hM => sl_Mover_fill_R2_24 hx n _ _ _ hM) hM
theorem se_Mover_fill_R2 {fu : Nat} {sn : Nat} {sx : Nat → Int32} {M : List am_C} {q : Nat × Nat} {T : TxT} {D : BdT} {r : RdT} {B : BdT} {V : MvT} {L : RwT} {F : RwT} {R : Nat → RwT} {S : SoT} {P : HeT} {w : RwT} {oo : am_O} {e : RwT} (hx : y_Mover_fill_R2 sn sx M q T D r B V L F R S P oo e) (hM : f_Mover_fill fu w B = some e) : am_ev 4 k_Mover_fill (0, [.ref 123, .ref 134, am_ju, am_ju, am_ju, am_ju], [], (zl sn sx, xa xm T D r B (xb V L F (va_up R ((2 : Int32)).toNatClampNeg w) S P), M, q)) oo := by
  unfold f_Mover_fill at hM
  obtain ⟨c5, hM⟩ := am_ifn hM
  refine am_ev.kc 10 20 [.ref 123, .ref 134, am_ju, am_ju, am_ju, am_ju] [.long ((bd_held B) ((bd_side B)).toNatClampNeg)] (zl sn sx, xa xm T D r B (xb V L F (va_up R ((2 : Int32)).toNatClampNeg ((rw_told w), (0 : Int32))) S P), M, q) c5 (fun _ _ => rfl) ?_
  refine am_ev.kg 3 (pc' := 24) (lv' := [.ref 123, .ref 134, .long ((bd_held B) ((bd_side B)).toNatClampNeg), am_ju, .int (0 : Int32), am_ju]) (st' := []) (h' := (zl sn sx, xa xm T D r B (xb V L F (va_up R ((2 : Int32)).toNatClampNeg ((rw_told w), (0 : Int32))) S P), M, q)) (fun _ _ => rfl) ?_
  refine sl_Mover_fill_R2_24 ?_ _ _ _ _ hM
  exact hx
theorem s_Mover_fill_R2 {fu : Nat} {sn : Nat} {sx : Nat → Int32} {M : List am_C} {q : Nat × Nat} {T : TxT} {D : BdT} {r : RdT} {B : BdT} {V : MvT} {L : RwT} {F : RwT} {R : Nat → RwT} {S : SoT} {P : HeT} {w : RwT} {ow : RwT} (hM : f_Mover_fill fu w B = some ow) : am_cv 5 k_Mover_fill [.ref 123, .ref 134] (zl sn sx, xa xm T D r B (xb V L F (va_up R ((2 : Int32)).toNatClampNeg w) S P), M, q) (.inl none, (zl sn sx, xa xm T D r B (xb V L F (va_up R ((2 : Int32)).toNatClampNeg ow) S P), M, q)) := am_cv.of rfl (se_Mover_fill_R2 (e := ow) (show y_Mover_fill_R2 sn sx M q T D r B V L F R S P _ ow from rfl) hM)
theorem s_Mover_fill_R2x {fu : Nat} {sn : Nat} {sx : Nat → Int32} {M : List am_C} {q : Nat × Nat} {T : TxT} {D : BdT} {r : RdT} {B : BdT} {V : MvT} {L : RwT} {F : RwT} {R : Nat → RwT} {S : SoT} {P : HeT} {ow : RwT} (hM : f_Mover_fill fu (R ((2 : Int32)).toNatClampNeg) B = some ow) : am_cv 5 k_Mover_fill [.ref 123, .ref 134] (zl sn sx, xa xm T D r B (xb V L F R S P), M, q) (.inl none, (zl sn sx, xa xm T D r B (xb V L F (va_up R ((2 : Int32)).toNatClampNeg ow) S P), M, q)) := by
  have h := s_Mover_fill_R2 (sn := sn) (sx := sx) (M := M) (q := q) (R := R) (w := R ((2 : Int32)).toNatClampNeg) (T := T) (D := D) (r := r) (B := B) (V := V) (L := L) (F := F) (S := S) (P := P) hM
  rw [am_ups] at h
  exact h
def y_Mover_fillChecks_R2 (sn : Nat) (sx : Nat → Int32) (M : List am_C) (q : Nat × Nat) (T : TxT) (D : BdT) (r : RdT) (B : BdT) (L : RwT) (F : RwT) (R : Nat → RwT) (S : SoT) (P : HeT) (oo : am_O) : RwT × MvT → Prop
  | (ow, oV) => oo = (.inl none, (zl sn sx, xa xm T D r B (xb oV L F (va_up R ((2 : Int32)).toNatClampNeg ow) S P), M, q))
def x_Mover_fillChecks_R2_28 (sn : Nat) (sx : Nat → Int32) (M : List am_C) (q : Nat × Nat) (T : TxT) (D : BdT) (r : RdT) (B : BdT) (V : MvT) (L : RwT) (F : RwT) (R : Nat → RwT) (S : SoT) (P : HeT) (oo : am_O) : RwT × MvT → Prop
  | (ow, oV) => oo = (.inl none, (zl sn sx, xa xm T D r B (xb oV L F (va_up R ((2 : Int32)).toNatClampNeg ow) S P), M, q))
theorem sj_Mover_fillChecks_R2_117 {fu : Nat} {sn : Nat} {sx : Nat → Int32} {M : List am_C} {q : Nat × Nat} {T : TxT} {D : BdT} {r : RdT} {B : BdT} {V : MvT} {L : RwT} {F : RwT} {R : Nat → RwT} {S : SoT} {P : HeT} {w : RwT} {l2 : Int64} {x4 : Int32} {s1 : Int32} {t2 : Int64} {s3 : Int32} {oo : am_O} {e : RwT × MvT} {gg : Int64 → Int32 → RwT → Option (RwT × MvT)} (hx : x_Mover_fillChecks_R2_28 sn sx M q T D r B V L F R S P oo e) (hg : ∀ (l2 : Int64) (x4 : Int32) (w : RwT), gg l2 x4 w = some e → am_ev 4 k_Mover_fillChecks (28, [.ref 123, .ref 134, .long l2, am_ju, .int x4, am_ju, am_ju, am_ju, am_ju], [], (zl sn sx, xa xm T D r B (xb V L F (va_up R ((2 : Int32)).toNatClampNeg w) S P), M, q)) oo) (hM : j_Mover_fillChecks_117 fu gg w B V l2 x4 s1 t2 s3 = some e) : am_ev 4 k_Mover_fillChecks (117, [.ref 123, .ref 134, .long l2, am_ju, .int x4, am_ju, am_ju, am_ju, am_ju], [.int s3, .long t2, .int s1, .ref 134], (zl sn sx, xa xm T D r B (xb V L F (va_up R ((2 : Int32)).toNatClampNeg w) S P), M, q)) oo := by
  unfold j_Mover_fillChecks_117 at hM
  obtain ⟨rr, hc, hM⟩ := am_bind hM
  obtain ⟨wg4, rfl⟩ : ∃ z, z = rr := ⟨_, rfl⟩
  refine am_ev.call rfl rfl rfl ((s_MoveRow_addAll_R2 hc).mono (by decide)) ?_
  show am_ev _ k_Mover_fillChecks (120, [.ref 123, .ref 134, .long l2, am_ju, .int x4, am_ju, am_ju, am_ju, am_ju], [], (zl sn sx, xa xm T D r B (xb V L F (va_up R ((2 : Int32)).toNatClampNeg wg4) S P), M, q)) oo
  refine am_ev.kg 2 (pc' := 28) (lv' := [.ref 123, .ref 134, .long l2, am_ju, .int (x4 + (1 : Int32)), am_ju, am_ju, am_ju, am_ju]) (st' := []) (h' := (zl sn sx, xa xm T D r B (xb V L F (va_up R ((2 : Int32)).toNatClampNeg wg4) S P), M, q)) (fun _ _ => rfl) ?_
  exact hg _ _ _ hM
theorem sj_Mover_fillChecks_R2_92 {fu : Nat} {sn : Nat} {sx : Nat → Int32} {M : List am_C} {q : Nat × Nat} {T : TxT} {D : BdT} {r : RdT} {B : BdT} {V : MvT} {L : RwT} {F : RwT} {R : Nat → RwT} {S : SoT} {P : HeT} {w : RwT} {l2 : Int64} {x4 : Int32} {x5 : Int32} {x6 : Int32} {t0 : Int64} {oo : am_O} {e : RwT × MvT} {gg : Int64 → Int32 → RwT → Option (RwT × MvT)} (hx : x_Mover_fillChecks_R2_28 sn sx M q T D r B V L F R S P oo e) (hg : ∀ (l2 : Int64) (x4 : Int32) (w : RwT), gg l2 x4 w = some e → am_ev 4 k_Mover_fillChecks (28, [.ref 123, .ref 134, .long l2, am_ju, .int x4, am_ju, am_ju, am_ju, am_ju], [], (zl sn sx, xa xm T D r B (xb V L F (va_up R ((2 : Int32)).toNatClampNeg w) S P), M, q)) oo) (hM : j_Mover_fillChecks_92 fu gg w B V l2 x4 x5 x6 t0 = some e) : am_ev 4 k_Mover_fillChecks (92, [.ref 123, .ref 134, .long l2, am_ju, .int x4, .int x5, .int x6, am_ju, am_ju], [.long t0], (zl sn sx, xa xm T D r B (xb V L F (va_up R ((2 : Int32)).toNatClampNeg w) S P), M, q)) oo := by
  unfold j_Mover_fillChecks_92 at hM
  obtain ⟨rr, hc, hM⟩ := am_bind hM
  obtain ⟨r3, rfl⟩ : ∃ z, z = rr := ⟨_, rfl⟩
  refine am_ev.kg 5 (pc' := 100) (lv' := [.ref 123, .ref 134, .long l2, am_ju, .int x4, .int x5, .int x6, .long t0, am_ju]) (st' := [.int x5, .ref 123, .int x5, .ref 134]) (h' := (zl sn sx, xa xm T D r B (xb V L F (va_up R ((2 : Int32)).toNatClampNeg w) S P), M, q)) (fun _ _ => rfl) ?_
  refine am_ev.call rfl rfl rfl ((s_Mover_targets hc).mono (by decide)) ?_
  show am_ev _ k_Mover_fillChecks (103, [.ref 123, .ref 134, .long l2, am_ju, .int x4, .int x5, .int x6, .long t0, am_ju], [.long r3, .int x5, .ref 134], (zl sn sx, xa xm T D r B (xb V L F (va_up R ((2 : Int32)).toNatClampNeg w) S P), M, q)) oo
  rcases am_if hM with ⟨c1, hM⟩ | ⟨c1, hM⟩
  · refine am_ev.kt 5 116 112 [.ref 123, .ref 134, .long l2, am_ju, .int x4, .int x5, .int x6, .long t0, am_ju] [.long (r3 &&& t0), .int x5, .ref 134] (zl sn sx, xa xm T D r B (xb V L F (va_up R ((2 : Int32)).toNatClampNeg w) S P), M, q) c1 (fun _ _ => rfl) ?_
    refine am_ev.kg 1 (pc' := 117) (lv' := [.ref 123, .ref 134, .long l2, am_ju, .int x4, .int x5, .int x6, .long t0, am_ju]) (st' := [.int (0 : Int32), .long (r3 &&& t0), .int x5, .ref 134]) (h' := (zl sn sx, xa xm T D r B (xb V L F (va_up R ((2 : Int32)).toNatClampNeg w) S P), M, q)) (fun _ _ => rfl) ?_
    refine am_ev.wk (lv' := [.ref 123, .ref 134, .long l2, am_ju, .int x4, am_ju, am_ju, am_ju, am_ju]) (am_lc (Or.inr rfl) (am_lc (Or.inr rfl) (am_lc (Or.inr rfl) (am_lc (Or.inr rfl) (am_lc (Or.inr rfl) (am_lc (Or.inl rfl) (am_lc (Or.inl rfl) (am_lc (Or.inl rfl) (am_lc (Or.inr rfl) am_ln))))))))) ?_
    exact sj_Mover_fillChecks_R2_117 hx hg hM
  · refine am_ev.ke 5 116 112 [.ref 123, .ref 134, .long l2, am_ju, .int x4, .int x5, .int x6, .long t0, am_ju] [.long (r3 &&& t0), .int x5, .ref 134] (zl sn sx, xa xm T D r B (xb V L F (va_up R ((2 : Int32)).toNatClampNeg w) S P), M, q) c1 (fun _ _ => rfl) ?_
    refine am_ev.kg 2 (pc' := 117) (lv' := [.ref 123, .ref 134, .long l2, am_ju, .int x4, .int x5, .int x6, .long t0, am_ju]) (st' := [.int (1 : Int32), .long (r3 &&& t0), .int x5, .ref 134]) (h' := (zl sn sx, xa xm T D r B (xb V L F (va_up R ((2 : Int32)).toNatClampNeg w) S P), M, q)) (fun _ _ => rfl) ?_
    refine am_ev.wk (lv' := [.ref 123, .ref 134, .long l2, am_ju, .int x4, am_ju, am_ju, am_ju, am_ju]) (am_lc (Or.inr rfl) (am_lc (Or.inr rfl) (am_lc (Or.inr rfl) (am_lc (Or.inr rfl) (am_lc (Or.inr rfl) (am_lc (Or.inl rfl) (am_lc (Or.inl rfl) (am_lc (Or.inl rfl) (am_lc (Or.inr rfl) am_ln))))))))) ?_
    exact sj_Mover_fillChecks_R2_117 hx hg hM
theorem sb_Mover_fillChecks_R2_28 {fu : Nat} {sn : Nat} {sx : Nat → Int32} {M : List am_C} {q : Nat × Nat} {T : TxT} {D : BdT} {r : RdT} {B : BdT} {V : MvT} {L : RwT} {F : RwT} {R : Nat → RwT} {S : SoT} {P : HeT} {oo : am_O} {e : RwT × MvT} {gg : Int64 → Int32 → RwT → Option (RwT × MvT)} (hx : x_Mover_fillChecks_R2_28 sn sx M q T D r B V L F R S P oo e) (hg : ∀ (l2 : Int64) (x4 : Int32) (w : RwT), gg l2 x4 w = some e → am_ev 4 k_Mover_fillChecks (28, [.ref 123, .ref 134, .long l2, am_ju, .int x4, am_ju, am_ju, am_ju, am_ju], [], (zl sn sx, xa xm T D r B (xb V L F (va_up R ((2 : Int32)).toNatClampNeg w) S P), M, q)) oo) {l2 : Int64} {x4 : Int32} {w : RwT} (hM : b_Mover_fillChecks_28 fu B V gg l2 x4 w = some e) : am_ev 4 k_Mover_fillChecks (28, [.ref 123, .ref 134, .long l2, am_ju, .int x4, am_ju, am_ju, am_ju, am_ju], [], (zl sn sx, xa xm T D r B (xb V L F (va_up R ((2 : Int32)).toNatClampNeg w) S P), M, q)) oo := by
  unfold b_Mover_fillChecks_28 at hM
  rcases am_if hM with ⟨c2, hM⟩ | ⟨c2, hM⟩
  · refine am_ev.kt 3 126 35 [.ref 123, .ref 134, .long l2, am_ju, .int x4, am_ju, am_ju, am_ju, am_ju] [] (zl sn sx, xa xm T D r B (xb V L F (va_up R ((2 : Int32)).toNatClampNeg w) S P), M, q) c2 (fun _ _ => rfl) ?_
    cases hM
    cases hx
    exact am_ev.kf 1 (fun _ _ => rfl)
  · refine am_ev.ke 3 126 35 [.ref 123, .ref 134, .long l2, am_ju, .int x4, am_ju, am_ju, am_ju, am_ju] [] (zl sn sx, xa xm T D r B (xb V L F (va_up R ((2 : Int32)).toNatClampNeg w) S P), M, q) c2 (fun _ _ => rfl) ?_
    rcases am_if hM with ⟨c3, hM⟩ | ⟨c3, hM⟩
    · refine am_ev.kt 4 126 41 [.ref 123, .ref 134, .long l2, am_ju, .int x4, am_ju, am_ju, am_ju, am_ju] [] (zl sn sx, xa xm T D r B (xb V L F (va_up R ((2 : Int32)).toNatClampNeg w) S P), M, q) c3 (fun _ _ => rfl) ?_
      cases hM
      cases hx
      exact am_ev.kf 1 (fun _ _ => rfl)
    · refine am_ev.ke 4 126 41 [.ref 123, .ref 134, .long l2, am_ju, .int x4, am_ju, am_ju, am_ju, am_ju] [] (zl sn sx, xa xm T D r B (xb V L F (va_up R ((2 : Int32)).toNatClampNeg w) S P), M, q) c3 (fun _ _ => rfl) ?_
      obtain ⟨rr, hc, hM⟩ := am_bind hM
      obtain ⟨r2, rfl⟩ : ∃ z, z = rr := ⟨_, rfl⟩
      refine am_ev.kg 1 (pc' := 42) (lv' := [.ref 123, .ref 134, .long l2, am_ju, .int x4, am_ju, am_ju, am_ju, am_ju]) (st' := [.long l2]) (h' := (zl sn sx, xa xm T D r B (xb V L F (va_up R ((2 : Int32)).toNatClampNeg w) S P), M, q)) (fun _ _ => rfl) ?_
      refine am_ev.call rfl rfl rfl ((s_Mover_lowest hc).mono (by decide)) ?_
      show am_ev _ k_Mover_fillChecks (45, [.ref 123, .ref 134, .long l2, am_ju, .int x4, am_ju, am_ju, am_ju, am_ju], [.int r2], (zl sn sx, xa xm T D r B (xb V L F (va_up R ((2 : Int32)).toNatClampNeg w) S P), M, q)) oo
      obtain ⟨c4, hM⟩ := am_ifn hM
      refine am_ev.kc 11 60 [.ref 123, .ref 134, .long (l2 &&& (l2 - (1 : Int64))), am_ju, .int x4, .int r2, am_ju, am_ju, am_ju] [.int ((bd_men B) (r2).toNatClampNeg)] (zl sn sx, xa xm T D r B (xb V L F (va_up R ((2 : Int32)).toNatClampNeg w) S P), M, q) c4 (fun _ _ => rfl) ?_
      rcases am_if hM with ⟨c5, hM⟩ | ⟨c5, hM⟩
      · refine am_ev.kt 12 85 79 [.ref 123, .ref 134, .long (l2 &&& (l2 - (1 : Int64))), am_ju, .int x4, .int r2, .int (((bd_men B) (r2).toNatClampNeg) &&& (7 : Int32)), am_ju, am_ju] [] (zl sn sx, xa xm T D r B (xb V L F (va_up R ((2 : Int32)).toNatClampNeg w) S P), M, q) c5 (fun _ _ => rfl) ?_
        obtain ⟨c6, hM⟩ := am_ifn hM
        refine am_ev.kc 4 92 [.ref 123, .ref 134, .long (l2 &&& (l2 - (1 : Int64))), am_ju, .int x4, .int r2, .int (((bd_men B) (r2).toNatClampNeg) &&& (7 : Int32)), am_ju, am_ju] [.long ((mv_aims V) ((((bd_men B) (r2).toNatClampNeg) &&& (7 : Int32))).toNatClampNeg)] (zl sn sx, xa xm T D r B (xb V L F (va_up R ((2 : Int32)).toNatClampNeg w) S P), M, q) c6 (fun _ _ => rfl) ?_
        exact sj_Mover_fillChecks_R2_92 hx hg hM
      · refine am_ev.ke 12 85 79 [.ref 123, .ref 134, .long (l2 &&& (l2 - (1 : Int64))), am_ju, .int x4, .int r2, .int (((bd_men B) (r2).toNatClampNeg) &&& (7 : Int32)), am_ju, am_ju] [] (zl sn sx, xa xm T D r B (xb V L F (va_up R ((2 : Int32)).toNatClampNeg w) S P), M, q) c5 (fun _ _ => rfl) ?_
        refine am_ev.kg 2 (pc' := 92) (lv' := [.ref 123, .ref 134, .long (l2 &&& (l2 - (1 : Int64))), am_ju, .int x4, .int r2, .int (((bd_men B) (r2).toNatClampNeg) &&& (7 : Int32)), am_ju, am_ju]) (st' := [.long (-1 : Int64)]) (h' := (zl sn sx, xa xm T D r B (xb V L F (va_up R ((2 : Int32)).toNatClampNeg w) S P), M, q)) (fun _ _ => rfl) ?_
        exact sj_Mover_fillChecks_R2_92 hx hg hM
theorem sl_Mover_fillChecks_R2_28 {fu : Nat} {sn : Nat} {sx : Nat → Int32} {M : List am_C} {q : Nat × Nat} {T : TxT} {D : BdT} {r : RdT} {B : BdT} {V : MvT} {L : RwT} {F : RwT} {R : Nat → RwT} {S : SoT} {P : HeT} {oo : am_O} {e : RwT × MvT} (hx : x_Mover_fillChecks_R2_28 sn sx M q T D r B V L F R S P oo e) : ∀ (n : Nat) (l2 : Int64) (x4 : Int32) (w : RwT), l_Mover_fillChecks_28 fu B V n l2 x4 w = some e → am_ev 4 k_Mover_fillChecks (28, [.ref 123, .ref 134, .long l2, am_ju, .int x4, am_ju, am_ju, am_ju, am_ju], [], (zl sn sx, xa xm T D r B (xb V L F (va_up R ((2 : Int32)).toNatClampNeg w) S P), M, q)) oo
  | 0, _, _, _, hM => by have h : (none : Option (RwT × MvT)) = some e := hM; cases h
  | n + 1, _, _, _, hM => sb_Mover_fillChecks_R2_28 hx (fun _ _ _ hM => sl_Mover_fillChecks_R2_28 hx n _ _ _ hM) hM
theorem se_Mover_fillChecks_R2 {fu : Nat} {sn : Nat} {sx : Nat → Int32} {M : List am_C} {q : Nat × Nat} {T : TxT} {D : BdT} {r : RdT} {B : BdT} {V : MvT} {L : RwT} {F : RwT} {R : Nat → RwT} {S : SoT} {P : HeT} {w : RwT} {oo : am_O} {e : RwT × MvT} (hx : y_Mover_fillChecks_R2 sn sx M q T D r B L F R S P oo e) (hM : f_Mover_fillChecks fu w B V = some e) : am_ev 4 k_Mover_fillChecks (0, [.ref 123, .ref 134, am_ju, am_ju, am_ju, am_ju, am_ju, am_ju, am_ju], [], (zl sn sx, xa xm T D r B (xb V L F (va_up R ((2 : Int32)).toNatClampNeg w) S P), M, q)) oo := by
  unfold f_Mover_fillChecks at hM
  obtain ⟨rr, hc, hM⟩ := am_bind hM
  obtain ⟨vg1, rfl⟩ : ∃ z, z = rr := ⟨_, rfl⟩
  refine am_ev.kg 1 (pc' := 1) (lv' := [.ref 123, .ref 134, am_ju, am_ju, am_ju, am_ju, am_ju, am_ju, am_ju]) (st' := [.ref 123]) (h' := (zl sn sx, xa xm T D r B (xb V L F (va_up R ((2 : Int32)).toNatClampNeg w) S P), M, q)) (fun _ _ => rfl) ?_
  refine am_ev.call rfl rfl rfl ((s_Mover_takeAim hc).mono (by decide)) ?_
  show am_ev _ k_Mover_fillChecks (4, [.ref 123, .ref 134, am_ju, am_ju, am_ju, am_ju, am_ju, am_ju, am_ju], [], (zl sn sx, xa xm T D r B (xb vg1 L F (va_up R ((2 : Int32)).toNatClampNeg w) S P), M, q)) oo
  obtain ⟨c7, hM⟩ := am_ifn hM
  refine am_ev.kc 10 24 [.ref 123, .ref 134, am_ju, am_ju, am_ju, am_ju, am_ju, am_ju, am_ju] [.long ((bd_held B) ((bd_side B)).toNatClampNeg)] (zl sn sx, xa xm T D r B (xb vg1 L F (va_up R ((2 : Int32)).toNatClampNeg ((rw_told w), (0 : Int32))) S P), M, q) c7 (fun _ _ => rfl) ?_
  refine am_ev.kg 3 (pc' := 28) (lv' := [.ref 123, .ref 134, .long ((bd_held B) ((bd_side B)).toNatClampNeg), am_ju, .int (0 : Int32), am_ju, am_ju, am_ju, am_ju]) (st' := []) (h' := (zl sn sx, xa xm T D r B (xb vg1 L F (va_up R ((2 : Int32)).toNatClampNeg ((rw_told w), (0 : Int32))) S P), M, q)) (fun _ _ => rfl) ?_
  obtain ⟨ow, oV⟩ := e
  refine sl_Mover_fillChecks_R2_28 ?_ _ _ _ _ hM
  exact hx
theorem s_Mover_fillChecks_R2 {fu : Nat} {sn : Nat} {sx : Nat → Int32} {M : List am_C} {q : Nat × Nat} {T : TxT} {D : BdT} {r : RdT} {B : BdT} {V : MvT} {L : RwT} {F : RwT} {R : Nat → RwT} {S : SoT} {P : HeT} {w : RwT} {ow : RwT} {oV : MvT} (hM : f_Mover_fillChecks fu w B V = some (ow, oV)) : am_cv 5 k_Mover_fillChecks [.ref 123, .ref 134] (zl sn sx, xa xm T D r B (xb V L F (va_up R ((2 : Int32)).toNatClampNeg w) S P), M, q) (.inl none, (zl sn sx, xa xm T D r B (xb oV L F (va_up R ((2 : Int32)).toNatClampNeg ow) S P), M, q)) := am_cv.of rfl (se_Mover_fillChecks_R2 (e := (ow, oV)) (show y_Mover_fillChecks_R2 sn sx M q T D r B L F R S P _ (ow, oV) from rfl) hM)
theorem s_Mover_fillChecks_R2x {fu : Nat} {sn : Nat} {sx : Nat → Int32} {M : List am_C} {q : Nat × Nat} {T : TxT} {D : BdT} {r : RdT} {B : BdT} {V : MvT} {L : RwT} {F : RwT} {R : Nat → RwT} {S : SoT} {P : HeT} {ow : RwT} {oV : MvT} (hM : f_Mover_fillChecks fu (R ((2 : Int32)).toNatClampNeg) B V = some (ow, oV)) : am_cv 5 k_Mover_fillChecks [.ref 123, .ref 134] (zl sn sx, xa xm T D r B (xb V L F R S P), M, q) (.inl none, (zl sn sx, xa xm T D r B (xb oV L F (va_up R ((2 : Int32)).toNatClampNeg ow) S P), M, q)) := by
  have h := s_Mover_fillChecks_R2 (sn := sn) (sx := sx) (M := M) (q := q) (R := R) (w := R ((2 : Int32)).toNatClampNeg) (T := T) (D := D) (r := r) (B := B) (V := V) (L := L) (F := F) (S := S) (P := P) hM
  rw [am_ups] at h
  exact h
def y_Solver_hasKey_p2 (sn : Nat) (sx : Nat → Int32) (M : List am_C) (q : Nat × Nat) (T : TxT) (D : BdT) (r : RdT) (L : RwT) (F : RwT) (P : HeT) (oo : am_O) : Int32 × BdT × MvT × (Nat → RwT) × SoT → Prop
  | (ov, oB, oV, oR, oS) => oo = (.inl (some (.int ov)), (zl sn sx, xa xm T D r oB (xb oV L F oR oS P), M, q))
def x_Solver_hasKey_p2_83 (sn : Nat) (sx : Nat → Int32) (M : List am_C) (q : Nat × Nat) (T : TxT) (D : BdT) (r : RdT) (L : RwT) (F : RwT) (P : HeT) (x1 : Int32) (x4 : Int32) (oo : am_O) : ((Int32 × BdT × MvT × (Nat → RwT) × SoT)) ⊕ (Int32 × BdT × MvT × (Nat → RwT) × SoT) → Prop
  | (.inl (x6, B, V, R, S)) => am_ev 9 k_Solver_hasKey (173, [.ref 142, am_ju, .int (2 : Int32), am_ju, am_ju, am_ju, .int x6, am_ju], [], (zl sn sx, xa xm T D r B (xb V L F R S P), M, q)) oo
  | .inr (ov, oB, oV, oR, oS) => oo = (.inl (some (.int ov)), (zl sn sx, xa xm T D r oB (xb oV L F oR oS P), M, q))
theorem sj_Solver_hasKey_p2_159 {fu : Nat} {dd : Nat} {sn : Nat} {sx : Nat → Int32} {M : List am_C} {q : Nat × Nat} {T : TxT} {D : BdT} {r : RdT} {B : BdT} {V : MvT} {L : RwT} {F : RwT} {R : Nat → RwT} {S : SoT} {P : HeT} {x1 : Int32} {x4 : Int32} {x5 : Int32} {x6 : Int32} {s0 : Int32} {oo : am_O} {e : ((Int32 × BdT × MvT × (Nat → RwT) × SoT)) ⊕ (Int32 × BdT × MvT × (Nat → RwT) × SoT)} {gg : Int32 → BdT → MvT → (Nat → RwT) → SoT → Option (((Int32 × BdT × MvT × (Nat → RwT) × SoT)) ⊕ (Int32 × BdT × MvT × (Nat → RwT) × SoT))} (hx : x_Solver_hasKey_p2_83 sn sx M q T D r L F P x1 x4 oo e) (hg : ∀ (x5 : Int32) (B : BdT) (V : MvT) (R : Nat → RwT) (S : SoT), gg x5 B V R S = some e → am_ev 9 k_Solver_hasKey (83, [.ref 142, .int x1, .int (2 : Int32), .ref 134, .int x4, .int x5, am_ju, am_ju], [], (zl sn sx, xa xm T D r B (xb V L F R S P), M, q)) oo) (hM : j_Solver_hasKey_159 fu (g_Solver fu dd).1 (g_Solver fu dd).2 gg B V R S x1 (2 : Int32) x4 x5 x6 s0 = some e) : am_ev 9 k_Solver_hasKey (159, [.ref 142, .int x1, .int (2 : Int32), .ref 134, .int x4, .int x5, .int x6, am_ju], [.int s0], (zl sn sx, xa xm T D r B (xb V L F R S P), M, q)) oo := by
  unfold j_Solver_hasKey_159 at hM
  obtain ⟨rr, hc, hM⟩ := am_bind hM
  obtain ⟨bg14, rfl⟩ : ∃ z, z = rr := ⟨_, rfl⟩
  refine am_ev.kg 3 (pc' := 165) (lv' := [.ref 142, .int x1, .int (2 : Int32), .ref 134, .int x4, .int x5, .int x6, .int s0]) (st' := [.ref 114]) (h' := (zl sn sx, xa xm T D r B (xb V L F R S P), M, q)) (fun _ _ => rfl) ?_
  refine am_ev.call rfl rfl rfl ((s_Board_unmake_B hc).mono (by decide)) ?_
  show am_ev _ k_Solver_hasKey (168, [.ref 142, .int x1, .int (2 : Int32), .ref 134, .int x4, .int x5, .int x6, .int s0], [], (zl sn sx, xa xm T D r bg14 (xb V L F R S P), M, q)) oo
  rcases am_if hM with ⟨c1, hM⟩ | ⟨c1, hM⟩
  · refine am_ev.kt 2 183 173 [.ref 142, .int x1, .int (2 : Int32), .ref 134, .int x4, .int x5, .int x6, .int s0] [] (zl sn sx, xa xm T D r bg14 (xb V L F R S P), M, q) c1 (fun _ _ => rfl) ?_
    refine am_ev.kg 2 (pc' := 83) (lv' := [.ref 142, .int x1, .int (2 : Int32), .ref 134, .int x4, .int (x5 + (1 : Int32)), .int x6, .int s0]) (st' := []) (h' := (zl sn sx, xa xm T D r bg14 (xb V L F R S P), M, q)) (fun _ _ => rfl) ?_
    refine am_ev.wk (lv' := [.ref 142, .int x1, .int (2 : Int32), .ref 134, .int x4, .int (x5 + (1 : Int32)), am_ju, am_ju]) (am_lc (Or.inr rfl) (am_lc (Or.inr rfl) (am_lc (Or.inr rfl) (am_lc (Or.inr rfl) (am_lc (Or.inr rfl) (am_lc (Or.inr rfl) (am_lc (Or.inl rfl) (am_lc (Or.inl rfl) am_ln)))))))) ?_
    exact hg _ _ _ _ _ hM
  · refine am_ev.ke 2 183 173 [.ref 142, .int x1, .int (2 : Int32), .ref 134, .int x4, .int x5, .int x6, .int s0] [] (zl sn sx, xa xm T D r bg14 (xb V L F R S P), M, q) c1 (fun _ _ => rfl) ?_
    refine am_ev.wk (lv' := [.ref 142, am_ju, .int (2 : Int32), am_ju, am_ju, am_ju, .int x6, am_ju]) (am_lc (Or.inr rfl) (am_lc (Or.inl rfl) (am_lc (Or.inr rfl) (am_lc (Or.inl rfl) (am_lc (Or.inl rfl) (am_lc (Or.inl rfl) (am_lc (Or.inr rfl) (am_lc (Or.inl rfl) am_ln)))))))) ?_
    cases hM
    exact hx
theorem sj_Solver_hasKey_p2_173 {fu : Nat} {dd : Nat} {sn : Nat} {sx : Nat → Int32} {M : List am_C} {q : Nat × Nat} {T : TxT} {D : BdT} {r : RdT} {B : BdT} {V : MvT} {L : RwT} {F : RwT} {R : Nat → RwT} {S : SoT} {P : HeT} {x6 : Int32} {oo : am_O} {e : Int32 × BdT × MvT × (Nat → RwT) × SoT} (hx : y_Solver_hasKey_p2 sn sx M q T D r L F P oo e) (hM : j_Solver_hasKey_173 fu (g_Solver fu dd).1 (g_Solver fu dd).2 B V R S (2 : Int32) x6 = some e) : am_ev 9 k_Solver_hasKey (173, [.ref 142, am_ju, .int (2 : Int32), am_ju, am_ju, am_ju, .int x6, am_ju], [], (zl sn sx, xa xm T D r B (xb V L F R S P), M, q)) oo := by
  unfold j_Solver_hasKey_173 at hM
  obtain ⟨c2, hM⟩ := am_ifn hM
  refine am_ev.kc 5 181 [.ref 142, am_ju, .int (2 : Int32), am_ju, am_ju, am_ju, .int x6, am_ju] [] (zl sn sx, xa xm T D r B (xb V L F R ((upd (so_hints S) ((2 : Int32)).toNatClampNeg x6), (so_kind S), (so_goal S)) P), M, q) c2 (fun _ _ => rfl) ?_
  cases hM
  cases hx
  exact am_ev.kf 2 (fun _ _ => rfl)
theorem sj_Solver_hasKey_p2_158 {fu : Nat} {dd : Nat} {sn : Nat} {sx : Nat → Int32} {M : List am_C} {q : Nat × Nat} {T : TxT} {D : BdT} {r : RdT} {B : BdT} {V : MvT} {L : RwT} {F : RwT} {R : Nat → RwT} {S : SoT} {P : HeT} {x1 : Int32} {x4 : Int32} {x5 : Int32} {x6 : Int32} {oo : am_O} {e : ((Int32 × BdT × MvT × (Nat → RwT) × SoT)) ⊕ (Int32 × BdT × MvT × (Nat → RwT) × SoT)} {gg : Int32 → BdT → MvT → (Nat → RwT) → SoT → Option (((Int32 × BdT × MvT × (Nat → RwT) × SoT)) ⊕ (Int32 × BdT × MvT × (Nat → RwT) × SoT))} (hx : x_Solver_hasKey_p2_83 sn sx M q T D r L F P x1 x4 oo e) (hg : ∀ (x5 : Int32) (B : BdT) (V : MvT) (R : Nat → RwT) (S : SoT), gg x5 B V R S = some e → am_ev 9 k_Solver_hasKey (83, [.ref 142, .int x1, .int (2 : Int32), .ref 134, .int x4, .int x5, am_ju, am_ju], [], (zl sn sx, xa xm T D r B (xb V L F R S P), M, q)) oo) (hM : j_Solver_hasKey_158 fu (g_Solver fu dd).1 (g_Solver fu dd).2 gg B V R S x1 (2 : Int32) x4 x5 x6 = some e) : am_ev 9 k_Solver_hasKey (158, [.ref 142, .int x1, .int (2 : Int32), .ref 134, .int x4, .int x5, .int x6, am_ju], [], (zl sn sx, xa xm T D r B (xb V L F R S P), M, q)) oo := by
  unfold j_Solver_hasKey_158 at hM
  refine am_ev.kg 1 (pc' := 159) (lv' := [.ref 142, .int x1, .int (2 : Int32), .ref 134, .int x4, .int x5, .int x6, am_ju]) (st' := [.int (0 : Int32)]) (h' := (zl sn sx, xa xm T D r B (xb V L F R S P), M, q)) (fun _ _ => rfl) ?_
  exact sj_Solver_hasKey_p2_159 hx hg hM
theorem sj_Solver_hasKey_p2_154 {fu : Nat} {dd : Nat} {sn : Nat} {sx : Nat → Int32} {M : List am_C} {q : Nat × Nat} {T : TxT} {D : BdT} {r : RdT} {B : BdT} {V : MvT} {L : RwT} {F : RwT} {R : Nat → RwT} {S : SoT} {P : HeT} {x1 : Int32} {x4 : Int32} {x5 : Int32} {x6 : Int32} {oo : am_O} {e : ((Int32 × BdT × MvT × (Nat → RwT) × SoT)) ⊕ (Int32 × BdT × MvT × (Nat → RwT) × SoT)} {gg : Int32 → BdT → MvT → (Nat → RwT) → SoT → Option (((Int32 × BdT × MvT × (Nat → RwT) × SoT)) ⊕ (Int32 × BdT × MvT × (Nat → RwT) × SoT))} (hx : x_Solver_hasKey_p2_83 sn sx M q T D r L F P x1 x4 oo e) (hg : ∀ (x5 : Int32) (B : BdT) (V : MvT) (R : Nat → RwT) (S : SoT), gg x5 B V R S = some e → am_ev 9 k_Solver_hasKey (83, [.ref 142, .int x1, .int (2 : Int32), .ref 134, .int x4, .int x5, am_ju, am_ju], [], (zl sn sx, xa xm T D r B (xb V L F R S P), M, q)) oo) (hM : j_Solver_hasKey_154 fu (g_Solver fu dd).1 (g_Solver fu dd).2 gg B V R S x1 (2 : Int32) x4 x5 x6 = some e) : am_ev 9 k_Solver_hasKey (154, [.ref 142, .int x1, .int (2 : Int32), .ref 134, .int x4, .int x5, .int x6, am_ju], [], (zl sn sx, xa xm T D r B (xb V L F R S P), M, q)) oo := by
  unfold j_Solver_hasKey_154 at hM
  refine am_ev.kg 2 (pc' := 159) (lv' := [.ref 142, .int x1, .int (2 : Int32), .ref 134, .int x4, .int x5, .int x6, am_ju]) (st' := [.int (1 : Int32)]) (h' := (zl sn sx, xa xm T D r B (xb V L F R S P), M, q)) (fun _ _ => rfl) ?_
  exact sj_Solver_hasKey_p2_159 hx hg hM
theorem sb_Solver_hasKey_p2_83 {fu : Nat} {dd : Nat} {sn : Nat} {sx : Nat → Int32} {M : List am_C} {q : Nat × Nat} {T : TxT} {D : BdT} {r : RdT} {L : RwT} {F : RwT} {P : HeT} {x1 : Int32} {x4 : Int32} {oo : am_O} {e : ((Int32 × BdT × MvT × (Nat → RwT) × SoT)) ⊕ (Int32 × BdT × MvT × (Nat → RwT) × SoT)} {gg : Int32 → BdT → MvT → (Nat → RwT) → SoT → Option (((Int32 × BdT × MvT × (Nat → RwT) × SoT)) ⊕ (Int32 × BdT × MvT × (Nat → RwT) × SoT))} (hx : x_Solver_hasKey_p2_83 sn sx M q T D r L F P x1 x4 oo e) (hg : ∀ (x5 : Int32) (B : BdT) (V : MvT) (R : Nat → RwT) (S : SoT), gg x5 B V R S = some e → am_ev 9 k_Solver_hasKey (83, [.ref 142, .int x1, .int (2 : Int32), .ref 134, .int x4, .int x5, am_ju, am_ju], [], (zl sn sx, xa xm T D r B (xb V L F R S P), M, q)) oo) {x5 : Int32} {B : BdT} {V : MvT} {R : Nat → RwT} {S : SoT} (hM : b_Solver_hasKey_83 fu (g_Solver fu dd).1 (g_Solver fu dd).2 x1 (2 : Int32) x4 gg x5 B V R S = some e) : am_ev 9 k_Solver_hasKey (83, [.ref 142, .int x1, .int (2 : Int32), .ref 134, .int x4, .int x5, am_ju, am_ju], [], (zl sn sx, xa xm T D r B (xb V L F R S P), M, q)) oo := by
  unfold b_Solver_hasKey_83 at hM
  rcases am_if hM with ⟨c3, hM⟩ | ⟨c3, hM⟩
  · refine am_ev.kt 4 189 92 [.ref 142, .int x1, .int (2 : Int32), .ref 134, .int x4, .int x5, am_ju, am_ju] [] (zl sn sx, xa xm T D r B (xb V L F R S P), M, q) c3 (fun _ _ => rfl) ?_
    cases hM
    cases hx
    exact am_ev.kf 2 (fun _ _ => rfl)
  · refine am_ev.ke 4 189 92 [.ref 142, .int x1, .int (2 : Int32), .ref 134, .int x4, .int x5, am_ju, am_ju] [] (zl sn sx, xa xm T D r B (xb V L F R S P), M, q) c3 (fun _ _ => rfl) ?_
    obtain ⟨c4, hM⟩ := am_ifn hM
    refine am_ev.kc 4 99 [.ref 142, .int x1, .int (2 : Int32), .ref 134, .int x4, .int x5, am_ju, am_ju] [.int ((rw_told (R ((2 : Int32)).toNatClampNeg)) (x5).toNatClampNeg)] (zl sn sx, xa xm T D r B (xb V L F R S P), M, q) c4 (fun _ _ => rfl) ?_
    obtain ⟨rr, hc, hM⟩ := am_bind hM
    obtain ⟨bg5, rfl⟩ : ∃ z, z = rr := ⟨_, rfl⟩
    refine am_ev.kg 4 (pc' := 107) (lv' := [.ref 142, .int x1, .int (2 : Int32), .ref 134, .int x4, .int x5, .int ((rw_told (R ((2 : Int32)).toNatClampNeg)) (x5).toNatClampNeg), am_ju]) (st' := [.int ((rw_told (R ((2 : Int32)).toNatClampNeg)) (x5).toNatClampNeg), .ref 114]) (h' := (zl sn sx, xa xm T D r B (xb V L F R S P), M, q)) (fun _ _ => rfl) ?_
    refine am_ev.call rfl rfl rfl ((s_Board_make_B hc).mono (by decide)) ?_
    show am_ev _ k_Solver_hasKey (110, [.ref 142, .int x1, .int (2 : Int32), .ref 134, .int x4, .int x5, .int ((rw_told (R ((2 : Int32)).toNatClampNeg)) (x5).toNatClampNeg), am_ju], [], (zl sn sx, xa xm T D r bg5 (xb V L F R S P), M, q)) oo
    obtain ⟨rr, hc, hM⟩ := am_bind hM
    obtain ⟨r6, rfl⟩ : ∃ z, z = rr := ⟨_, rfl⟩
    refine am_ev.kg 2 (pc' := 114) (lv' := [.ref 142, .int x1, .int (2 : Int32), .ref 134, .int x4, .int x5, .int ((rw_told (R ((2 : Int32)).toNatClampNeg)) (x5).toNatClampNeg), am_ju]) (st' := [.ref 114]) (h' := (zl sn sx, xa xm T D r bg5 (xb V L F R S P), M, q)) (fun _ _ => rfl) ?_
    refine am_ev.call rfl rfl rfl ((s_Board_isLegal_B hc).mono (by decide)) ?_
    show am_ev _ k_Solver_hasKey (117, [.ref 142, .int x1, .int (2 : Int32), .ref 134, .int x4, .int x5, .int ((rw_told (R ((2 : Int32)).toNatClampNeg)) (x5).toNatClampNeg), am_ju], [.int r6], (zl sn sx, xa xm T D r bg5 (xb V L F R S P), M, q)) oo
    rcases am_if hM with ⟨c5, hM⟩ | ⟨c5, hM⟩
    · refine am_ev.kt 1 158 120 [.ref 142, .int x1, .int (2 : Int32), .ref 134, .int x4, .int x5, .int ((rw_told (R ((2 : Int32)).toNatClampNeg)) (x5).toNatClampNeg), am_ju] [] (zl sn sx, xa xm T D r bg5 (xb V L F R S P), M, q) c5 (fun _ _ => rfl) ?_
      exact sj_Solver_hasKey_p2_158 hx hg hM
    · refine am_ev.ke 1 158 120 [.ref 142, .int x1, .int (2 : Int32), .ref 134, .int x4, .int x5, .int ((rw_told (R ((2 : Int32)).toNatClampNeg)) (x5).toNatClampNeg), am_ju] [] (zl sn sx, xa xm T D r bg5 (xb V L F R S P), M, q) c5 (fun _ _ => rfl) ?_
      rcases am_if hM with ⟨c6, hM⟩ | ⟨c6, hM⟩
      · refine am_ev.kt 2 142 125 [.ref 142, .int x1, .int (2 : Int32), .ref 134, .int x4, .int x5, .int ((rw_told (R ((2 : Int32)).toNatClampNeg)) (x5).toNatClampNeg), am_ju] [] (zl sn sx, xa xm T D r bg5 (xb V L F R S P), M, q) c6 (fun _ _ => rfl) ?_
        obtain ⟨rr, hc, hM⟩ := am_bind hM
        obtain ⟨r7, bg8, vg9, rg10, sg11⟩ := rr
        refine am_ev.kg 5 (pc' := 147) (lv' := [.ref 142, .int x1, .int (2 : Int32), .ref 134, .int x4, .int x5, .int ((rw_told (R ((2 : Int32)).toNatClampNeg)) (x5).toNatClampNeg), am_ju]) (st' := [.int ((2 : Int32) + (1 : Int32)), .int x1, .ref 142]) (h' := (zl sn sx, xa xm T D r bg5 (xb V L F R S P), M, q)) (fun _ _ => rfl) ?_
        refine am_ev.call rfl rfl rfl ((s_Solver_refutation_p3 hc).mono (by decide)) ?_
        show am_ev _ k_Solver_hasKey (150, [.ref 142, .int x1, .int (2 : Int32), .ref 134, .int x4, .int x5, .int ((rw_told (R ((2 : Int32)).toNatClampNeg)) (x5).toNatClampNeg), am_ju], [.int r7], (zl sn sx, xa xm T D r bg8 (xb vg9 L F rg10 sg11 P), M, q)) oo
        rcases am_if hM with ⟨c7, hM⟩ | ⟨c7, hM⟩
        · refine am_ev.kt 2 158 154 [.ref 142, .int x1, .int (2 : Int32), .ref 134, .int x4, .int x5, .int ((rw_told (R ((2 : Int32)).toNatClampNeg)) (x5).toNatClampNeg), am_ju] [] (zl sn sx, xa xm T D r bg8 (xb vg9 L F rg10 sg11 P), M, q) c7 (fun _ _ => rfl) ?_
          exact sj_Solver_hasKey_p2_158 hx hg hM
        · refine am_ev.ke 2 158 154 [.ref 142, .int x1, .int (2 : Int32), .ref 134, .int x4, .int x5, .int ((rw_told (R ((2 : Int32)).toNatClampNeg)) (x5).toNatClampNeg), am_ju] [] (zl sn sx, xa xm T D r bg8 (xb vg9 L F rg10 sg11 P), M, q) c7 (fun _ _ => rfl) ?_
          exact sj_Solver_hasKey_p2_154 hx hg hM
      · refine am_ev.ke 2 142 125 [.ref 142, .int x1, .int (2 : Int32), .ref 134, .int x4, .int x5, .int ((rw_told (R ((2 : Int32)).toNatClampNeg)) (x5).toNatClampNeg), am_ju] [] (zl sn sx, xa xm T D r bg5 (xb V L F R S P), M, q) c6 (fun _ _ => rfl) ?_
        obtain ⟨rr, hc, hM⟩ := am_bind hM
        obtain ⟨r12, bg13⟩ := rr
        refine am_ev.kg 4 (pc' := 133) (lv' := [.ref 142, .int x1, .int (2 : Int32), .ref 134, .int x4, .int x5, .int ((rw_told (R ((2 : Int32)).toNatClampNeg)) (x5).toNatClampNeg), am_ju]) (st' := [.int (so_goal S), .ref 123]) (h' := (zl sn sx, xa xm T D r bg5 (xb V L F R S P), M, q)) (fun _ _ => rfl) ?_
        refine am_ev.call rfl rfl rfl ((s_Mover_isBeaten hc).mono (by decide)) ?_
        show am_ev _ k_Solver_hasKey (136, [.ref 142, .int x1, .int (2 : Int32), .ref 134, .int x4, .int x5, .int ((rw_told (R ((2 : Int32)).toNatClampNeg)) (x5).toNatClampNeg), am_ju], [.int r12], (zl sn sx, xa xm T D r bg13 (xb V L F R S P), M, q)) oo
        rcases am_if hM with ⟨c8, hM⟩ | ⟨c8, hM⟩
        · refine am_ev.kt 1 158 139 [.ref 142, .int x1, .int (2 : Int32), .ref 134, .int x4, .int x5, .int ((rw_told (R ((2 : Int32)).toNatClampNeg)) (x5).toNatClampNeg), am_ju] [] (zl sn sx, xa xm T D r bg13 (xb V L F R S P), M, q) c8 (fun _ _ => rfl) ?_
          exact sj_Solver_hasKey_p2_158 hx hg hM
        · refine am_ev.ke 1 158 139 [.ref 142, .int x1, .int (2 : Int32), .ref 134, .int x4, .int x5, .int ((rw_told (R ((2 : Int32)).toNatClampNeg)) (x5).toNatClampNeg), am_ju] [] (zl sn sx, xa xm T D r bg13 (xb V L F R S P), M, q) c8 (fun _ _ => rfl) ?_
          refine am_ev.kg 1 (pc' := 154) (lv' := [.ref 142, .int x1, .int (2 : Int32), .ref 134, .int x4, .int x5, .int ((rw_told (R ((2 : Int32)).toNatClampNeg)) (x5).toNatClampNeg), am_ju]) (st' := []) (h' := (zl sn sx, xa xm T D r bg13 (xb V L F R S P), M, q)) (fun _ _ => rfl) ?_
          exact sj_Solver_hasKey_p2_154 hx hg hM
theorem sl_Solver_hasKey_p2_83 {fu : Nat} {dd : Nat} {sn : Nat} {sx : Nat → Int32} {M : List am_C} {q : Nat × Nat} {T : TxT} {D : BdT} {r : RdT} {L : RwT} {F : RwT} {P : HeT} {x1 : Int32} {x4 : Int32} {oo : am_O} {e : ((Int32 × BdT × MvT × (Nat → RwT) × SoT)) ⊕ (Int32 × BdT × MvT × (Nat → RwT) × SoT)} (hx : x_Solver_hasKey_p2_83 sn sx M q T D r L F P x1 x4 oo e) : ∀ (n : Nat) (x5 : Int32) (B : BdT) (V : MvT) (R : Nat → RwT) (S : SoT), l_Solver_hasKey_83 fu (g_Solver fu dd).1 (g_Solver fu dd).2 x1 (2 : Int32) x4 n x5 B V R S = some e → am_ev 9 k_Solver_hasKey (83, [.ref 142, .int x1, .int (2 : Int32), .ref 134, .int x4, .int x5, am_ju, am_ju], [], (zl sn sx, xa xm T D r B (xb V L F R S P), M, q)) oo
  | 0, _, _, _, _, _, hM => by have h : (none : Option (((Int32 × BdT × MvT × (Nat → RwT) × SoT)) ⊕ (Int32 × BdT × MvT × (Nat → RwT) × SoT))) = some e := hM; cases h
  | n + 1, _, _, _, _, _, hM => sb_Solver_hasKey_p2_83 hx (fun _ _ _ _ _ hM => sl_Solver_hasKey_p2_83 hx n _ _ _ _ _ hM) hM
theorem sj_Solver_hasKey_p2_70 {fu : Nat} {dd : Nat} {sn : Nat} {sx : Nat → Int32} {M : List am_C} {q : Nat × Nat} {T : TxT} {D : BdT} {r : RdT} {B : BdT} {V : MvT} {L : RwT} {F : RwT} {R : Nat → RwT} {S : SoT} {P : HeT} {x1 : Int32} {x4 : Int32} {oo : am_O} {e : Int32 × BdT × MvT × (Nat → RwT) × SoT} (hx : y_Solver_hasKey_p2 sn sx M q T D r L F P oo e) (hM : j_Solver_hasKey_70 fu (g_Solver fu dd).1 (g_Solver fu dd).2 B V R S x1 (2 : Int32) x4 = some e) : am_ev 9 k_Solver_hasKey (70, [.ref 142, .int x1, .int (2 : Int32), .ref 134, .int x4, am_ju, am_ju, am_ju], [], (zl sn sx, xa xm T D r B (xb V L F R S P), M, q)) oo := by
  unfold j_Solver_hasKey_70 at hM
  obtain ⟨c9, hM⟩ := am_ifn hM
  refine am_ev.kc 5 77 [.ref 142, .int x1, .int (2 : Int32), .ref 134, .int x4, am_ju, am_ju, am_ju] [.int ((so_hints S) ((2 : Int32)).toNatClampNeg), .ref 134] (zl sn sx, xa xm T D r B (xb V L F R S P), M, q) c9 (fun _ _ => rfl) ?_
  obtain ⟨rr, hc, hM⟩ := am_bind hM
  obtain ⟨wg4, rfl⟩ : ∃ z, z = rr := ⟨_, rfl⟩
  refine am_ev.call rfl rfl rfl ((s_MoveRow_bringFirst_R2x hc).mono (by decide)) ?_
  show am_ev _ k_Solver_hasKey (80, [.ref 142, .int x1, .int (2 : Int32), .ref 134, .int x4, am_ju, am_ju, am_ju], [], (zl sn sx, xa xm T D r B (xb V L F (va_up R ((2 : Int32)).toNatClampNeg wg4) S P), M, q)) oo
  refine am_ev.kg 2 (pc' := 83) (lv' := [.ref 142, .int x1, .int (2 : Int32), .ref 134, .int x4, .int (0 : Int32), am_ju, am_ju]) (st' := []) (h' := (zl sn sx, xa xm T D r B (xb V L F (va_up R ((2 : Int32)).toNatClampNeg wg4) S P), M, q)) (fun _ _ => rfl) ?_
  obtain ⟨z, hz, hM⟩ := am_bind hM
  rcases z with z | z
  ·
    obtain ⟨x6_1, bz_1, vz_1, rz_1, sz_1⟩ := z
    refine sl_Solver_hasKey_p2_83 ?_ _ _ _ _ _ _ hz
    show am_ev 9 k_Solver_hasKey (173, [.ref 142, am_ju, .int (2 : Int32), am_ju, am_ju, am_ju, .int x6_1, am_ju], [], (zl sn sx, xa xm T D r bz_1 (xb vz_1 L F rz_1 sz_1 P), M, q)) oo
    exact sj_Solver_hasKey_p2_173 hx hM
  ·
    obtain ⟨ov, oB, oV, oR, oS⟩ := z
    cases hM
    refine sl_Solver_hasKey_p2_83 ?_ _ _ _ _ _ _ hz
    exact hx
theorem sj_Solver_hasKey_p2_62 {fu : Nat} {dd : Nat} {sn : Nat} {sx : Nat → Int32} {M : List am_C} {q : Nat × Nat} {T : TxT} {D : BdT} {r : RdT} {B : BdT} {V : MvT} {L : RwT} {F : RwT} {R : Nat → RwT} {S : SoT} {P : HeT} {x1 : Int32} {x4 : Int32} {oo : am_O} {e : Int32 × BdT × MvT × (Nat → RwT) × SoT} (hx : y_Solver_hasKey_p2 sn sx M q T D r L F P oo e) (hM : j_Solver_hasKey_62 fu (g_Solver fu dd).1 (g_Solver fu dd).2 B V R S x1 (2 : Int32) x4 = some e) : am_ev 9 k_Solver_hasKey (62, [.ref 142, .int x1, .int (2 : Int32), .ref 134, .int x4, am_ju, am_ju, am_ju], [], (zl sn sx, xa xm T D r B (xb V L F R S P), M, q)) oo := by
  unfold j_Solver_hasKey_62 at hM
  obtain ⟨rr, hc, hM⟩ := am_bind hM
  obtain ⟨wg3, rfl⟩ : ∃ z, z = rr := ⟨_, rfl⟩
  refine am_ev.kg 3 (pc' := 67) (lv' := [.ref 142, .int x1, .int (2 : Int32), .ref 134, .int x4, am_ju, am_ju, am_ju]) (st' := [.ref 134, .ref 123]) (h' := (zl sn sx, xa xm T D r B (xb V L F R S P), M, q)) (fun _ _ => rfl) ?_
  refine am_ev.call rfl rfl rfl ((s_Mover_fill_R2x hc).mono (by decide)) ?_
  show am_ev _ k_Solver_hasKey (70, [.ref 142, .int x1, .int (2 : Int32), .ref 134, .int x4, am_ju, am_ju, am_ju], [], (zl sn sx, xa xm T D r B (xb V L F (va_up R ((2 : Int32)).toNatClampNeg wg3) S P), M, q)) oo
  exact sj_Solver_hasKey_p2_70 hx hM
theorem sj_Solver_hasKey_p2_37 {fu : Nat} {dd : Nat} {sn : Nat} {sx : Nat → Int32} {M : List am_C} {q : Nat × Nat} {T : TxT} {D : BdT} {r : RdT} {B : BdT} {V : MvT} {L : RwT} {F : RwT} {R : Nat → RwT} {S : SoT} {P : HeT} {x1 : Int32} {s0 : Int32} {oo : am_O} {e : Int32 × BdT × MvT × (Nat → RwT) × SoT} (hx : y_Solver_hasKey_p2 sn sx M q T D r L F P oo e) (hM : j_Solver_hasKey_37 fu (g_Solver fu dd).1 (g_Solver fu dd).2 B V R S x1 (2 : Int32) s0 = some e) : am_ev 9 k_Solver_hasKey (37, [.ref 142, .int x1, .int (2 : Int32), .ref 134, am_ju, am_ju, am_ju, am_ju], [.int s0], (zl sn sx, xa xm T D r B (xb V L F R S P), M, q)) oo := by
  unfold j_Solver_hasKey_37 at hM
  rcases am_if hM with ⟨c10, hM⟩ | ⟨c10, hM⟩
  · refine am_ev.kt 3 62 44 [.ref 142, .int x1, .int (2 : Int32), .ref 134, .int s0, am_ju, am_ju, am_ju] [] (zl sn sx, xa xm T D r B (xb V L F R S P), M, q) c10 (fun _ _ => rfl) ?_
    exact sj_Solver_hasKey_p2_62 hx hM
  · refine am_ev.ke 3 62 44 [.ref 142, .int x1, .int (2 : Int32), .ref 134, .int s0, am_ju, am_ju, am_ju] [] (zl sn sx, xa xm T D r B (xb V L F R S P), M, q) c10 (fun _ _ => rfl) ?_
    rcases am_if hM with ⟨c11, hM⟩ | ⟨c11, hM⟩
    · refine am_ev.kt 3 62 51 [.ref 142, .int x1, .int (2 : Int32), .ref 134, .int s0, am_ju, am_ju, am_ju] [] (zl sn sx, xa xm T D r B (xb V L F R S P), M, q) c11 (fun _ _ => rfl) ?_
      exact sj_Solver_hasKey_p2_62 hx hM
    · refine am_ev.ke 3 62 51 [.ref 142, .int x1, .int (2 : Int32), .ref 134, .int s0, am_ju, am_ju, am_ju] [] (zl sn sx, xa xm T D r B (xb V L F R S P), M, q) c11 (fun _ _ => rfl) ?_
      obtain ⟨rr, hc, hM⟩ := am_bind hM
      obtain ⟨wg1, vg2⟩ := rr
      refine am_ev.kg 3 (pc' := 56) (lv' := [.ref 142, .int x1, .int (2 : Int32), .ref 134, .int s0, am_ju, am_ju, am_ju]) (st' := [.ref 134, .ref 123]) (h' := (zl sn sx, xa xm T D r B (xb V L F R S P), M, q)) (fun _ _ => rfl) ?_
      refine am_ev.call rfl rfl rfl ((s_Mover_fillChecks_R2x hc).mono (by decide)) ?_
      show am_ev _ k_Solver_hasKey (59, [.ref 142, .int x1, .int (2 : Int32), .ref 134, .int s0, am_ju, am_ju, am_ju], [], (zl sn sx, xa xm T D r B (xb vg2 L F (va_up R ((2 : Int32)).toNatClampNeg wg1) S P), M, q)) oo
      refine am_ev.kg 1 (pc' := 70) (lv' := [.ref 142, .int x1, .int (2 : Int32), .ref 134, .int s0, am_ju, am_ju, am_ju]) (st' := []) (h' := (zl sn sx, xa xm T D r B (xb vg2 L F (va_up R ((2 : Int32)).toNatClampNeg wg1) S P), M, q)) (fun _ _ => rfl) ?_
      exact sj_Solver_hasKey_p2_70 hx hM
theorem sj_Solver_hasKey_p2_36 {fu : Nat} {dd : Nat} {sn : Nat} {sx : Nat → Int32} {M : List am_C} {q : Nat × Nat} {T : TxT} {D : BdT} {r : RdT} {B : BdT} {V : MvT} {L : RwT} {F : RwT} {R : Nat → RwT} {S : SoT} {P : HeT} {x1 : Int32} {oo : am_O} {e : Int32 × BdT × MvT × (Nat → RwT) × SoT} (hx : y_Solver_hasKey_p2 sn sx M q T D r L F P oo e) (hM : j_Solver_hasKey_36 fu (g_Solver fu dd).1 (g_Solver fu dd).2 B V R S x1 (2 : Int32) = some e) : am_ev 9 k_Solver_hasKey (36, [.ref 142, .int x1, .int (2 : Int32), .ref 134, am_ju, am_ju, am_ju, am_ju], [], (zl sn sx, xa xm T D r B (xb V L F R S P), M, q)) oo := by
  unfold j_Solver_hasKey_36 at hM
  refine am_ev.kg 1 (pc' := 37) (lv' := [.ref 142, .int x1, .int (2 : Int32), .ref 134, am_ju, am_ju, am_ju, am_ju]) (st' := [.int (0 : Int32)]) (h' := (zl sn sx, xa xm T D r B (xb V L F R S P), M, q)) (fun _ _ => rfl) ?_
  exact sj_Solver_hasKey_p2_37 hx hM
theorem se_Solver_hasKey_p2 {fu : Nat} {dd : Nat} {sn : Nat} {sx : Nat → Int32} {M : List am_C} {q : Nat × Nat} {T : TxT} {D : BdT} {r : RdT} {B : BdT} {V : MvT} {L : RwT} {F : RwT} {R : Nat → RwT} {S : SoT} {P : HeT} {x1 : Int32} {oo : am_O} {e : Int32 × BdT × MvT × (Nat → RwT) × SoT} (hx : y_Solver_hasKey_p2 sn sx M q T D r L F P oo e) (hM : e_Solver_hasKey fu (g_Solver fu dd).1 (g_Solver fu dd).2 x1 (2 : Int32) B V R S = some e) : am_ev 9 k_Solver_hasKey (0, [.ref 142, .int x1, .int (2 : Int32), am_ju, am_ju, am_ju, am_ju, am_ju], [], (zl sn sx, xa xm T D r B (xb V L F R S P), M, q)) oo := by
  unfold e_Solver_hasKey at hM
  rcases am_if hM with ⟨c12, hM⟩ | ⟨c12, hM⟩
  · refine am_ev.kt 3 11 5 [.ref 142, .int x1, .int (2 : Int32), am_ju, am_ju, am_ju, am_ju, am_ju] [] (zl sn sx, xa xm T D r B (xb V L F R S P), M, q) c12 (fun _ _ => rfl) ?_
    cases hM
    cases hx
    exact am_ev.kf 2 (fun _ _ => rfl)
  · refine am_ev.ke 3 11 5 [.ref 142, .int x1, .int (2 : Int32), am_ju, am_ju, am_ju, am_ju, am_ju] [] (zl sn sx, xa xm T D r B (xb V L F R S P), M, q) c12 (fun _ _ => rfl) ?_
    rcases am_if hM with ⟨c13, hM⟩ | ⟨c13, hM⟩
    · refine am_ev.kt 3 13 11 [.ref 142, .int x1, .int (2 : Int32), am_ju, am_ju, am_ju, am_ju, am_ju] [] (zl sn sx, xa xm T D r B (xb V L F R S P), M, q) c13 (fun _ _ => rfl) ?_
      obtain ⟨c14, hM⟩ := am_ifn hM
      refine am_ev.kc 4 19 [.ref 142, .int x1, .int (2 : Int32), am_ju, am_ju, am_ju, am_ju, am_ju] [.ref 134] (zl sn sx, xa xm T D r B (xb V L F R S P), M, q) c14 (fun _ _ => rfl) ?_
      rcases am_if hM with ⟨c15, hM⟩ | ⟨c15, hM⟩
      · refine am_ev.kt 4 36 27 [.ref 142, .int x1, .int (2 : Int32), .ref 134, am_ju, am_ju, am_ju, am_ju] [] (zl sn sx, xa xm T D r B (xb V L F R S P), M, q) c15 (fun _ _ => rfl) ?_
        exact sj_Solver_hasKey_p2_36 hx hM
      · refine am_ev.ke 4 36 27 [.ref 142, .int x1, .int (2 : Int32), .ref 134, am_ju, am_ju, am_ju, am_ju] [] (zl sn sx, xa xm T D r B (xb V L F R S P), M, q) c15 (fun _ _ => rfl) ?_
        rcases am_if hM with ⟨c16, hM⟩ | ⟨c16, hM⟩
        · refine am_ev.kt 3 36 32 [.ref 142, .int x1, .int (2 : Int32), .ref 134, am_ju, am_ju, am_ju, am_ju] [] (zl sn sx, xa xm T D r B (xb V L F R S P), M, q) c16 (fun _ _ => rfl) ?_
          exact sj_Solver_hasKey_p2_36 hx hM
        · refine am_ev.ke 3 36 32 [.ref 142, .int x1, .int (2 : Int32), .ref 134, am_ju, am_ju, am_ju, am_ju] [] (zl sn sx, xa xm T D r B (xb V L F R S P), M, q) c16 (fun _ _ => rfl) ?_
          refine am_ev.kg 2 (pc' := 37) (lv' := [.ref 142, .int x1, .int (2 : Int32), .ref 134, am_ju, am_ju, am_ju, am_ju]) (st' := [.int (1 : Int32)]) (h' := (zl sn sx, xa xm T D r B (xb V L F R S P), M, q)) (fun _ _ => rfl) ?_
          exact sj_Solver_hasKey_p2_37 hx hM
    · exact absurd c13 (by decide)
theorem s_Solver_hasKey_p2 {fu : Nat} {dd : Nat} {sn : Nat} {sx : Nat → Int32} {M : List am_C} {q : Nat × Nat} {T : TxT} {D : BdT} {r : RdT} {B : BdT} {V : MvT} {L : RwT} {F : RwT} {R : Nat → RwT} {S : SoT} {P : HeT} {x1 : Int32} {ov : Int32} {oB : BdT} {oV : MvT} {oR : Nat → RwT} {oS : SoT} (hM : (g_Solver fu dd).1 x1 (2 : Int32) B V R S = some (ov, oB, oV, oR, oS)) : am_cv 10 k_Solver_hasKey [.ref 142, .int x1, .int (2 : Int32)] (zl sn sx, xa xm T D r B (xb V L F R S P), M, q) (.inl (some (.int ov)), (zl sn sx, xa xm T D r oB (xb oV L F oR oS P), M, q)) := by
  cases dd with
  | zero => have h : (none : Option (Int32 × BdT × MvT × (Nat → RwT) × SoT)) = some (ov, oB, oV, oR, oS) := hM; cases h
  | succ dd => exact am_cv.of rfl (se_Solver_hasKey_p2 (e := (ov, oB, oV, oR, oS)) (show y_Solver_hasKey_p2 sn sx M q T D r L F P _ (ov, oB, oV, oR, oS) from rfl) (show e_Solver_hasKey fu (g_Solver fu dd).1 (g_Solver fu dd).2 x1 (2 : Int32) B V R S = some (ov, oB, oV, oR, oS) from hM))
def y_MoveRow_add_R1 (sn : Nat) (sx : Nat → Int32) (M : List am_C) (q : Nat × Nat) (T : TxT) (D : BdT) (r : RdT) (B : BdT) (V : MvT) (L : RwT) (F : RwT) (R : Nat → RwT) (S : SoT) (P : HeT) (oo : am_O) : RwT → Prop
  | ow => oo = (.inl none, (zl sn sx, xa xm T D r B (xb V L F (va_up R ((1 : Int32)).toNatClampNeg ow) S P), M, q))
theorem se_MoveRow_add_R1 {sn : Nat} {sx : Nat → Int32} {M : List am_C} {q : Nat × Nat} {T : TxT} {D : BdT} {r : RdT} {B : BdT} {V : MvT} {L : RwT} {F : RwT} {R : Nat → RwT} {S : SoT} {P : HeT} {w : RwT} {x1 : Int32} {oo : am_O} {e : RwT} (hx : y_MoveRow_add_R1 sn sx M q T D r B V L F R S P oo e) (hM : f_MoveRow_add x1 w = some e) : am_ev 1 k_MoveRow_add (0, [.ref 132, .int x1], [], (zl sn sx, xa xm T D r B (xb V L F (va_up R ((1 : Int32)).toNatClampNeg w) S P), M, q)) oo := by
  unfold f_MoveRow_add at hM
  rcases am_if hM with ⟨c1, hM⟩ | ⟨c1, hM⟩
  · refine am_ev.kt 4 30 10 [.ref 132, .int x1] [] (zl sn sx, xa xm T D r B (xb V L F (va_up R ((1 : Int32)).toNatClampNeg w) S P), M, q) c1 (fun _ _ => rfl) ?_
    cases hM
    cases hx
    exact am_ev.kf 1 (fun _ _ => rfl)
  · refine am_ev.ke 4 30 10 [.ref 132, .int x1] [] (zl sn sx, xa xm T D r B (xb V L F (va_up R ((1 : Int32)).toNatClampNeg w) S P), M, q) c1 (fun _ _ => rfl) ?_
    obtain ⟨c2, hM⟩ := am_ifn hM
    refine am_ev.kc 6 20 [.ref 132, .int x1] [] (zl sn sx, xa xm T D r B (xb V L F (va_up R ((1 : Int32)).toNatClampNeg ((upd (rw_told w) ((rw_count w)).toNatClampNeg x1), (rw_count w))) S P), M, q) c2 (fun _ _ => rfl) ?_
    cases hM
    cases hx
    exact am_ev.kf 7 (fun _ _ => rfl)
theorem s_MoveRow_add_R1 {sn : Nat} {sx : Nat → Int32} {M : List am_C} {q : Nat × Nat} {T : TxT} {D : BdT} {r : RdT} {B : BdT} {V : MvT} {L : RwT} {F : RwT} {R : Nat → RwT} {S : SoT} {P : HeT} {w : RwT} {x1 : Int32} {ow : RwT} (hM : f_MoveRow_add x1 w = some ow) : am_cv 2 k_MoveRow_add [.ref 132, .int x1] (zl sn sx, xa xm T D r B (xb V L F (va_up R ((1 : Int32)).toNatClampNeg w) S P), M, q) (.inl none, (zl sn sx, xa xm T D r B (xb V L F (va_up R ((1 : Int32)).toNatClampNeg ow) S P), M, q)) := am_cv.of rfl (se_MoveRow_add_R1 (e := ow) (show y_MoveRow_add_R1 sn sx M q T D r B V L F R S P _ ow from rfl) hM)
theorem s_MoveRow_add_R1x {sn : Nat} {sx : Nat → Int32} {M : List am_C} {q : Nat × Nat} {T : TxT} {D : BdT} {r : RdT} {B : BdT} {V : MvT} {L : RwT} {F : RwT} {R : Nat → RwT} {S : SoT} {P : HeT} {x1 : Int32} {ow : RwT} (hM : f_MoveRow_add x1 (R ((1 : Int32)).toNatClampNeg) = some ow) : am_cv 2 k_MoveRow_add [.ref 132, .int x1] (zl sn sx, xa xm T D r B (xb V L F R S P), M, q) (.inl none, (zl sn sx, xa xm T D r B (xb V L F (va_up R ((1 : Int32)).toNatClampNeg ow) S P), M, q)) := by
  have h := s_MoveRow_add_R1 (sn := sn) (sx := sx) (M := M) (q := q) (R := R) (w := R ((1 : Int32)).toNatClampNeg) (T := T) (D := D) (r := r) (B := B) (V := V) (L := L) (F := F) (S := S) (P := P) hM
  rw [am_ups] at h
  exact h
def y_MoveRow_addAll_R1 (sn : Nat) (sx : Nat → Int32) (M : List am_C) (q : Nat × Nat) (T : TxT) (D : BdT) (r : RdT) (B : BdT) (V : MvT) (L : RwT) (F : RwT) (R : Nat → RwT) (S : SoT) (P : HeT) (oo : am_O) : RwT → Prop
  | ow => oo = (.inl none, (zl sn sx, xa xm T D r B (xb V L F (va_up R ((1 : Int32)).toNatClampNeg ow) S P), M, q))
def x_MoveRow_addAll_R1_77 (sn : Nat) (sx : Nat → Int32) (M : List am_C) (q : Nat × Nat) (T : TxT) (D : BdT) (r : RdT) (B : BdT) (V : MvT) (L : RwT) (F : RwT) (R : Nat → RwT) (S : SoT) (P : HeT) (x1 : Int32) (x4 : Int32) (l5 : Int64) (x7 : Int32) (x10 : Int32) (oo : am_O) : (RwT) → Prop
  | w => am_ev 2 k_MoveRow_addAll (102, [.ref 132, .int x1, am_ju, am_ju, .int x4, .long l5, am_ju, .int x7, am_ju, am_ju, am_ju, am_ju], [], (zl sn sx, xa xm T D r B (xb V L F (va_up R ((1 : Int32)).toNatClampNeg w) S P), M, q)) oo
def x_MoveRow_addAll_R1_6 (sn : Nat) (sx : Nat → Int32) (M : List am_C) (q : Nat × Nat) (T : TxT) (D : BdT) (r : RdT) (B : BdT) (V : MvT) (L : RwT) (F : RwT) (R : Nat → RwT) (S : SoT) (P : HeT) (x1 : Int32) (x4 : Int32) (oo : am_O) : RwT → Prop
  | ow => oo = (.inl none, (zl sn sx, xa xm T D r B (xb V L F (va_up R ((1 : Int32)).toNatClampNeg ow) S P), M, q))
theorem sb_MoveRow_addAll_R1_77 {fu : Nat} {sn : Nat} {sx : Nat → Int32} {M : List am_C} {q : Nat × Nat} {T : TxT} {D : BdT} {r : RdT} {B : BdT} {V : MvT} {L : RwT} {F : RwT} {R : Nat → RwT} {S : SoT} {P : HeT} {x1 : Int32} {x4 : Int32} {l5 : Int64} {x7 : Int32} {x10 : Int32} {oo : am_O} {e : (RwT)} {gg : Int32 → RwT → Option ((RwT))} (hx : x_MoveRow_addAll_R1_77 sn sx M q T D r B V L F R S P x1 x4 l5 x7 x10 oo e) (hg : ∀ (x11 : Int32) (w : RwT), gg x11 w = some e → am_ev 2 k_MoveRow_addAll (77, [.ref 132, .int x1, am_ju, am_ju, .int x4, .long l5, am_ju, .int x7, am_ju, am_ju, .int x10, .int x11], [], (zl sn sx, xa xm T D r B (xb V L F (va_up R ((1 : Int32)).toNatClampNeg w) S P), M, q)) oo) {x11 : Int32} {w : RwT} (hM : b_MoveRow_addAll_77 fu x1 x4 l5 x7 x10 gg x11 w = some e) : am_ev 2 k_MoveRow_addAll (77, [.ref 132, .int x1, am_ju, am_ju, .int x4, .long l5, am_ju, .int x7, am_ju, am_ju, .int x10, .int x11], [], (zl sn sx, xa xm T D r B (xb V L F (va_up R ((1 : Int32)).toNatClampNeg w) S P), M, q)) oo := by
  unfold b_MoveRow_addAll_77 at hM
  rcases am_if hM with ⟨c1, hM⟩ | ⟨c1, hM⟩
  · refine am_ev.kt 3 102 83 [.ref 132, .int x1, am_ju, am_ju, .int x4, .long l5, am_ju, .int x7, am_ju, am_ju, .int x10, .int x11] [] (zl sn sx, xa xm T D r B (xb V L F (va_up R ((1 : Int32)).toNatClampNeg w) S P), M, q) c1 (fun _ _ => rfl) ?_
    refine am_ev.wk (lv' := [.ref 132, .int x1, am_ju, am_ju, .int x4, .long l5, am_ju, .int x7, am_ju, am_ju, am_ju, am_ju]) (am_lc (Or.inr rfl) (am_lc (Or.inr rfl) (am_lc (Or.inr rfl) (am_lc (Or.inr rfl) (am_lc (Or.inr rfl) (am_lc (Or.inr rfl) (am_lc (Or.inr rfl) (am_lc (Or.inr rfl) (am_lc (Or.inr rfl) (am_lc (Or.inr rfl) (am_lc (Or.inl rfl) (am_lc (Or.inl rfl) am_ln)))))))))))) ?_
    cases hM
    exact hx
  · refine am_ev.ke 3 102 83 [.ref 132, .int x1, am_ju, am_ju, .int x4, .long l5, am_ju, .int x7, am_ju, am_ju, .int x10, .int x11] [] (zl sn sx, xa xm T D r B (xb V L F (va_up R ((1 : Int32)).toNatClampNeg w) S P), M, q) c1 (fun _ _ => rfl) ?_
    obtain ⟨rr, hc, hM⟩ := am_bind hM
    obtain ⟨wg3, rfl⟩ : ∃ z, z = rr := ⟨_, rfl⟩
    refine am_ev.kg 6 (pc' := 93) (lv' := [.ref 132, .int x1, am_ju, am_ju, .int x4, .long l5, am_ju, .int x7, am_ju, am_ju, .int x10, .int x11]) (st' := [.int (x10 + ((4096 : Int32) * x11)), .ref 132]) (h' := (zl sn sx, xa xm T D r B (xb V L F (va_up R ((1 : Int32)).toNatClampNeg w) S P), M, q)) (fun _ _ => rfl) ?_
    refine am_ev.call rfl rfl rfl ((s_MoveRow_add_R1 hc).mono (by decide)) ?_
    show am_ev _ k_MoveRow_addAll (96, [.ref 132, .int x1, am_ju, am_ju, .int x4, .long l5, am_ju, .int x7, am_ju, am_ju, .int x10, .int x11], [], (zl sn sx, xa xm T D r B (xb V L F (va_up R ((1 : Int32)).toNatClampNeg wg3) S P), M, q)) oo
    refine am_ev.kg 2 (pc' := 77) (lv' := [.ref 132, .int x1, am_ju, am_ju, .int x4, .long l5, am_ju, .int x7, am_ju, am_ju, .int x10, .int (x11 + (1 : Int32))]) (st' := []) (h' := (zl sn sx, xa xm T D r B (xb V L F (va_up R ((1 : Int32)).toNatClampNeg wg3) S P), M, q)) (fun _ _ => rfl) ?_
    exact hg _ _ hM
theorem sl_MoveRow_addAll_R1_77 {fu : Nat} {sn : Nat} {sx : Nat → Int32} {M : List am_C} {q : Nat × Nat} {T : TxT} {D : BdT} {r : RdT} {B : BdT} {V : MvT} {L : RwT} {F : RwT} {R : Nat → RwT} {S : SoT} {P : HeT} {x1 : Int32} {x4 : Int32} {l5 : Int64} {x7 : Int32} {x10 : Int32} {oo : am_O} {e : (RwT)} (hx : x_MoveRow_addAll_R1_77 sn sx M q T D r B V L F R S P x1 x4 l5 x7 x10 oo e) : ∀ (n : Nat) (x11 : Int32) (w : RwT), l_MoveRow_addAll_77 fu x1 x4 l5 x7 x10 n x11 w = some e → am_ev 2 k_MoveRow_addAll (77, [.ref 132, .int x1, am_ju, am_ju, .int x4, .long l5, am_ju, .int x7, am_ju, am_ju, .int x10, .int x11], [], (zl sn sx, xa xm T D r B (xb V L F (va_up R ((1 : Int32)).toNatClampNeg w) S P), M, q)) oo
  | 0, _, _, hM => by have h : (none : Option ((RwT))) = some e := hM; cases h
  | n + 1, _, _, hM => sb_MoveRow_addAll_R1_77 hx (fun _ _ hM => sl_MoveRow_addAll_R1_77 hx n _ _ hM) hM
theorem sj_MoveRow_addAll_R1_102 {fu : Nat} {sn : Nat} {sx : Nat → Int32} {M : List am_C} {q : Nat × Nat} {T : TxT} {D : BdT} {r : RdT} {B : BdT} {V : MvT} {L : RwT} {F : RwT} {R : Nat → RwT} {S : SoT} {P : HeT} {w : RwT} {x1 : Int32} {x4 : Int32} {l5 : Int64} {x7 : Int32} {oo : am_O} {e : RwT} {gg : Int64 → Int32 → RwT → Option (RwT)} (hx : x_MoveRow_addAll_R1_6 sn sx M q T D r B V L F R S P x1 x4 oo e) (hg : ∀ (l5 : Int64) (x7 : Int32) (w : RwT), gg l5 x7 w = some e → am_ev 2 k_MoveRow_addAll (6, [.ref 132, .int x1, am_ju, am_ju, .int x4, .long l5, am_ju, .int x7, am_ju, am_ju, am_ju, am_ju], [], (zl sn sx, xa xm T D r B (xb V L F (va_up R ((1 : Int32)).toNatClampNeg w) S P), M, q)) oo) (hM : j_MoveRow_addAll_102 fu gg w x1 x4 l5 x7 = some e) : am_ev 2 k_MoveRow_addAll (102, [.ref 132, .int x1, am_ju, am_ju, .int x4, .long l5, am_ju, .int x7, am_ju, am_ju, am_ju, am_ju], [], (zl sn sx, xa xm T D r B (xb V L F (va_up R ((1 : Int32)).toNatClampNeg w) S P), M, q)) oo := by
  unfold j_MoveRow_addAll_102 at hM
  refine am_ev.kg 2 (pc' := 6) (lv' := [.ref 132, .int x1, am_ju, am_ju, .int x4, .long l5, am_ju, .int (x7 + (1 : Int32)), am_ju, am_ju, am_ju, am_ju]) (st' := []) (h' := (zl sn sx, xa xm T D r B (xb V L F (va_up R ((1 : Int32)).toNatClampNeg w) S P), M, q)) (fun _ _ => rfl) ?_
  exact hg _ _ _ hM
theorem sj_MoveRow_addAll_R1_65 {fu : Nat} {sn : Nat} {sx : Nat → Int32} {M : List am_C} {q : Nat × Nat} {T : TxT} {D : BdT} {r : RdT} {B : BdT} {V : MvT} {L : RwT} {F : RwT} {R : Nat → RwT} {S : SoT} {P : HeT} {w : RwT} {x1 : Int32} {x4 : Int32} {l5 : Int64} {x7 : Int32} {x10 : Int32} {oo : am_O} {e : RwT} {gg : Int64 → Int32 → RwT → Option (RwT)} (hx : x_MoveRow_addAll_R1_6 sn sx M q T D r B V L F R S P x1 x4 oo e) (hg : ∀ (l5 : Int64) (x7 : Int32) (w : RwT), gg l5 x7 w = some e → am_ev 2 k_MoveRow_addAll (6, [.ref 132, .int x1, am_ju, am_ju, .int x4, .long l5, am_ju, .int x7, am_ju, am_ju, am_ju, am_ju], [], (zl sn sx, xa xm T D r B (xb V L F (va_up R ((1 : Int32)).toNatClampNeg w) S P), M, q)) oo) (hM : j_MoveRow_addAll_65 fu gg w x1 x4 l5 x7 x10 = some e) : am_ev 2 k_MoveRow_addAll (65, [.ref 132, .int x1, am_ju, am_ju, .int x4, .long l5, am_ju, .int x7, am_ju, am_ju, .int x10, am_ju], [], (zl sn sx, xa xm T D r B (xb V L F (va_up R ((1 : Int32)).toNatClampNeg w) S P), M, q)) oo := by
  unfold j_MoveRow_addAll_65 at hM
  obtain ⟨rr, hc, hM⟩ := am_bind hM
  obtain ⟨wg2, rfl⟩ : ∃ z, z = rr := ⟨_, rfl⟩
  refine am_ev.kg 2 (pc' := 68) (lv' := [.ref 132, .int x1, am_ju, am_ju, .int x4, .long l5, am_ju, .int x7, am_ju, am_ju, .int x10, am_ju]) (st' := [.int x10, .ref 132]) (h' := (zl sn sx, xa xm T D r B (xb V L F (va_up R ((1 : Int32)).toNatClampNeg w) S P), M, q)) (fun _ _ => rfl) ?_
  refine am_ev.call rfl rfl rfl ((s_MoveRow_add_R1 hc).mono (by decide)) ?_
  show am_ev _ k_MoveRow_addAll (71, [.ref 132, .int x1, am_ju, am_ju, .int x4, .long l5, am_ju, .int x7, am_ju, am_ju, .int x10, am_ju], [], (zl sn sx, xa xm T D r B (xb V L F (va_up R ((1 : Int32)).toNatClampNeg wg2) S P), M, q)) oo
  refine am_ev.kg 1 (pc' := 102) (lv' := [.ref 132, .int x1, am_ju, am_ju, .int x4, .long l5, am_ju, .int x7, am_ju, am_ju, .int x10, am_ju]) (st' := []) (h' := (zl sn sx, xa xm T D r B (xb V L F (va_up R ((1 : Int32)).toNatClampNeg wg2) S P), M, q)) (fun _ _ => rfl) ?_
  refine am_ev.wk (lv' := [.ref 132, .int x1, am_ju, am_ju, .int x4, .long l5, am_ju, .int x7, am_ju, am_ju, am_ju, am_ju]) (am_lc (Or.inr rfl) (am_lc (Or.inr rfl) (am_lc (Or.inr rfl) (am_lc (Or.inr rfl) (am_lc (Or.inr rfl) (am_lc (Or.inr rfl) (am_lc (Or.inr rfl) (am_lc (Or.inr rfl) (am_lc (Or.inr rfl) (am_lc (Or.inr rfl) (am_lc (Or.inl rfl) (am_lc (Or.inr rfl) am_ln)))))))))))) ?_
  exact sj_MoveRow_addAll_R1_102 hx hg hM
theorem sb_MoveRow_addAll_R1_6 {fu : Nat} {sn : Nat} {sx : Nat → Int32} {M : List am_C} {q : Nat × Nat} {T : TxT} {D : BdT} {r : RdT} {B : BdT} {V : MvT} {L : RwT} {F : RwT} {R : Nat → RwT} {S : SoT} {P : HeT} {x1 : Int32} {x4 : Int32} {oo : am_O} {e : RwT} {gg : Int64 → Int32 → RwT → Option (RwT)} (hx : x_MoveRow_addAll_R1_6 sn sx M q T D r B V L F R S P x1 x4 oo e) (hg : ∀ (l5 : Int64) (x7 : Int32) (w : RwT), gg l5 x7 w = some e → am_ev 2 k_MoveRow_addAll (6, [.ref 132, .int x1, am_ju, am_ju, .int x4, .long l5, am_ju, .int x7, am_ju, am_ju, am_ju, am_ju], [], (zl sn sx, xa xm T D r B (xb V L F (va_up R ((1 : Int32)).toNatClampNeg w) S P), M, q)) oo) {l5 : Int64} {x7 : Int32} {w : RwT} (hM : b_MoveRow_addAll_6 fu x1 x4 gg l5 x7 w = some e) : am_ev 2 k_MoveRow_addAll (6, [.ref 132, .int x1, am_ju, am_ju, .int x4, .long l5, am_ju, .int x7, am_ju, am_ju, am_ju, am_ju], [], (zl sn sx, xa xm T D r B (xb V L F (va_up R ((1 : Int32)).toNatClampNeg w) S P), M, q)) oo := by
  unfold b_MoveRow_addAll_6 at hM
  rcases am_if hM with ⟨c2, hM⟩ | ⟨c2, hM⟩
  · refine am_ev.kt 3 108 13 [.ref 132, .int x1, am_ju, am_ju, .int x4, .long l5, am_ju, .int x7, am_ju, am_ju, am_ju, am_ju] [] (zl sn sx, xa xm T D r B (xb V L F (va_up R ((1 : Int32)).toNatClampNeg w) S P), M, q) c2 (fun _ _ => rfl) ?_
    cases hM
    cases hx
    exact am_ev.kf 1 (fun _ _ => rfl)
  · refine am_ev.ke 3 108 13 [.ref 132, .int x1, am_ju, am_ju, .int x4, .long l5, am_ju, .int x7, am_ju, am_ju, am_ju, am_ju] [] (zl sn sx, xa xm T D r B (xb V L F (va_up R ((1 : Int32)).toNatClampNeg w) S P), M, q) c2 (fun _ _ => rfl) ?_
    rcases am_if hM with ⟨c3, hM⟩ | ⟨c3, hM⟩
    · refine am_ev.kt 4 108 20 [.ref 132, .int x1, am_ju, am_ju, .int x4, .long l5, am_ju, .int x7, am_ju, am_ju, am_ju, am_ju] [] (zl sn sx, xa xm T D r B (xb V L F (va_up R ((1 : Int32)).toNatClampNeg w) S P), M, q) c3 (fun _ _ => rfl) ?_
      cases hM
      cases hx
      exact am_ev.kf 1 (fun _ _ => rfl)
    · refine am_ev.ke 4 108 20 [.ref 132, .int x1, am_ju, am_ju, .int x4, .long l5, am_ju, .int x7, am_ju, am_ju, am_ju, am_ju] [] (zl sn sx, xa xm T D r B (xb V L F (va_up R ((1 : Int32)).toNatClampNeg w) S P), M, q) c3 (fun _ _ => rfl) ?_
      obtain ⟨rr, hc, hM⟩ := am_bind hM
      obtain ⟨r1, rfl⟩ : ∃ z, z = rr := ⟨_, rfl⟩
      refine am_ev.kg 14 (pc' := 42) (lv' := [.ref 132, .int x1, am_ju, am_ju, .int x4, .long (l5 ^^^ (l5 &&& (-l5))), am_ju, .int x7, .long (l5 &&& (-l5)), am_ju, am_ju, am_ju]) (st' := [.long ((l5 &&& (-l5)) - (1 : Int64)), .int (64 : Int32), .int x1]) (h' := (zl sn sx, xa xm T D r B (xb V L F (va_up R ((1 : Int32)).toNatClampNeg w) S P), M, q)) (fun _ _ => rfl) ?_
      refine am_ev.call rfl rfl rfl ((s_Long_bitCount hc).mono (by decide)) ?_
      show am_ev _ k_MoveRow_addAll (45, [.ref 132, .int x1, am_ju, am_ju, .int x4, .long (l5 ^^^ (l5 &&& (-l5))), am_ju, .int x7, .long (l5 &&& (-l5)), am_ju, am_ju, am_ju], [.int r1, .int (64 : Int32), .int x1], (zl sn sx, xa xm T D r B (xb V L F (va_up R ((1 : Int32)).toNatClampNeg w) S P), M, q)) oo
      rcases am_if hM with ⟨c4, hM⟩ | ⟨c4, hM⟩
      · refine am_ev.kt 5 65 54 [.ref 132, .int x1, am_ju, am_ju, .int x4, .long (l5 ^^^ (l5 &&& (-l5))), am_ju, .int x7, .long (l5 &&& (-l5)), am_ju, .int (x1 + ((64 : Int32) * r1)), am_ju] [] (zl sn sx, xa xm T D r B (xb V L F (va_up R ((1 : Int32)).toNatClampNeg w) S P), M, q) c4 (fun _ _ => rfl) ?_
        refine am_ev.wk (lv' := [.ref 132, .int x1, am_ju, am_ju, .int x4, .long (l5 ^^^ (l5 &&& (-l5))), am_ju, .int x7, am_ju, am_ju, .int (x1 + ((64 : Int32) * r1)), am_ju]) (am_lc (Or.inr rfl) (am_lc (Or.inr rfl) (am_lc (Or.inr rfl) (am_lc (Or.inr rfl) (am_lc (Or.inr rfl) (am_lc (Or.inr rfl) (am_lc (Or.inr rfl) (am_lc (Or.inr rfl) (am_lc (Or.inl rfl) (am_lc (Or.inr rfl) (am_lc (Or.inr rfl) (am_lc (Or.inr rfl) am_ln)))))))))))) ?_
        exact sj_MoveRow_addAll_R1_65 hx hg hM
      · refine am_ev.ke 5 65 54 [.ref 132, .int x1, am_ju, am_ju, .int x4, .long (l5 ^^^ (l5 &&& (-l5))), am_ju, .int x7, .long (l5 &&& (-l5)), am_ju, .int (x1 + ((64 : Int32) * r1)), am_ju] [] (zl sn sx, xa xm T D r B (xb V L F (va_up R ((1 : Int32)).toNatClampNeg w) S P), M, q) c4 (fun _ _ => rfl) ?_
        rcases am_if hM with ⟨c5, hM⟩ | ⟨c5, hM⟩
        · refine am_ev.kt 6 74 65 [.ref 132, .int x1, am_ju, am_ju, .int x4, .long (l5 ^^^ (l5 &&& (-l5))), am_ju, .int x7, .long (l5 &&& (-l5)), am_ju, .int (x1 + ((64 : Int32) * r1)), am_ju] [] (zl sn sx, xa xm T D r B (xb V L F (va_up R ((1 : Int32)).toNatClampNeg w) S P), M, q) c5 (fun _ _ => rfl) ?_
          refine am_ev.kg 2 (pc' := 77) (lv' := [.ref 132, .int x1, am_ju, am_ju, .int x4, .long (l5 ^^^ (l5 &&& (-l5))), am_ju, .int x7, .long (l5 &&& (-l5)), am_ju, .int (x1 + ((64 : Int32) * r1)), .int (2 : Int32)]) (st' := []) (h' := (zl sn sx, xa xm T D r B (xb V L F (va_up R ((1 : Int32)).toNatClampNeg w) S P), M, q)) (fun _ _ => rfl) ?_
          refine am_ev.wk (lv' := [.ref 132, .int x1, am_ju, am_ju, .int x4, .long (l5 ^^^ (l5 &&& (-l5))), am_ju, .int x7, am_ju, am_ju, .int (x1 + ((64 : Int32) * r1)), .int (2 : Int32)]) (am_lc (Or.inr rfl) (am_lc (Or.inr rfl) (am_lc (Or.inr rfl) (am_lc (Or.inr rfl) (am_lc (Or.inr rfl) (am_lc (Or.inr rfl) (am_lc (Or.inr rfl) (am_lc (Or.inr rfl) (am_lc (Or.inl rfl) (am_lc (Or.inr rfl) (am_lc (Or.inr rfl) (am_lc (Or.inr rfl) am_ln)))))))))))) ?_
          obtain ⟨z, hz, hM⟩ := am_bind hM
          obtain ⟨wz_1, rfl⟩ : ∃ y, y = z := ⟨_, rfl⟩
          refine sl_MoveRow_addAll_R1_77 ?_ _ _ _ hz
          show am_ev 2 k_MoveRow_addAll (102, [.ref 132, .int x1, am_ju, am_ju, .int x4, .long (l5 ^^^ (l5 &&& (-l5))), am_ju, .int x7, am_ju, am_ju, am_ju, am_ju], [], (zl sn sx, xa xm T D r B (xb V L F (va_up R ((1 : Int32)).toNatClampNeg wz_1) S P), M, q)) oo
          exact sj_MoveRow_addAll_R1_102 hx hg hM
        · refine am_ev.ke 6 74 65 [.ref 132, .int x1, am_ju, am_ju, .int x4, .long (l5 ^^^ (l5 &&& (-l5))), am_ju, .int x7, .long (l5 &&& (-l5)), am_ju, .int (x1 + ((64 : Int32) * r1)), am_ju] [] (zl sn sx, xa xm T D r B (xb V L F (va_up R ((1 : Int32)).toNatClampNeg w) S P), M, q) c5 (fun _ _ => rfl) ?_
          refine am_ev.wk (lv' := [.ref 132, .int x1, am_ju, am_ju, .int x4, .long (l5 ^^^ (l5 &&& (-l5))), am_ju, .int x7, am_ju, am_ju, .int (x1 + ((64 : Int32) * r1)), am_ju]) (am_lc (Or.inr rfl) (am_lc (Or.inr rfl) (am_lc (Or.inr rfl) (am_lc (Or.inr rfl) (am_lc (Or.inr rfl) (am_lc (Or.inr rfl) (am_lc (Or.inr rfl) (am_lc (Or.inr rfl) (am_lc (Or.inl rfl) (am_lc (Or.inr rfl) (am_lc (Or.inr rfl) (am_lc (Or.inr rfl) am_ln)))))))))))) ?_
          exact sj_MoveRow_addAll_R1_65 hx hg hM
theorem sl_MoveRow_addAll_R1_6 {fu : Nat} {sn : Nat} {sx : Nat → Int32} {M : List am_C} {q : Nat × Nat} {T : TxT} {D : BdT} {r : RdT} {B : BdT} {V : MvT} {L : RwT} {F : RwT} {R : Nat → RwT} {S : SoT} {P : HeT} {x1 : Int32} {x4 : Int32} {oo : am_O} {e : RwT} (hx : x_MoveRow_addAll_R1_6 sn sx M q T D r B V L F R S P x1 x4 oo e) : ∀ (n : Nat) (l5 : Int64) (x7 : Int32) (w : RwT), l_MoveRow_addAll_6 fu x1 x4 n l5 x7 w = some e → am_ev 2 k_MoveRow_addAll (6, [.ref 132, .int x1, am_ju, am_ju, .int x4, .long l5, am_ju, .int x7, am_ju, am_ju, am_ju, am_ju], [], (zl sn sx, xa xm T D r B (xb V L F (va_up R ((1 : Int32)).toNatClampNeg w) S P), M, q)) oo
  | 0, _, _, _, hM => by have h : (none : Option (RwT)) = some e := hM; cases h
  | n + 1, _, _, _, hM => sb_MoveRow_addAll_R1_6 hx (fun _ _ _ hM => sl_MoveRow_addAll_R1_6 hx n _ _ _ hM) hM
theorem se_MoveRow_addAll_R1 {fu : Nat} {sn : Nat} {sx : Nat → Int32} {M : List am_C} {q : Nat × Nat} {T : TxT} {D : BdT} {r : RdT} {B : BdT} {V : MvT} {L : RwT} {F : RwT} {R : Nat → RwT} {S : SoT} {P : HeT} {w : RwT} {x1 : Int32} {l2 : Int64} {x4 : Int32} {oo : am_O} {e : RwT} (hx : y_MoveRow_addAll_R1 sn sx M q T D r B V L F R S P oo e) (hM : f_MoveRow_addAll fu x1 l2 x4 w = some e) : am_ev 2 k_MoveRow_addAll (0, [.ref 132, .int x1, .long l2, am_ju, .int x4, am_ju, am_ju, am_ju, am_ju, am_ju, am_ju, am_ju], [], (zl sn sx, xa xm T D r B (xb V L F (va_up R ((1 : Int32)).toNatClampNeg w) S P), M, q)) oo := by
  unfold f_MoveRow_addAll at hM
  refine am_ev.kg 4 (pc' := 6) (lv' := [.ref 132, .int x1, .long l2, am_ju, .int x4, .long l2, am_ju, .int (0 : Int32), am_ju, am_ju, am_ju, am_ju]) (st' := []) (h' := (zl sn sx, xa xm T D r B (xb V L F (va_up R ((1 : Int32)).toNatClampNeg w) S P), M, q)) (fun _ _ => rfl) ?_
  refine am_ev.wk (lv' := [.ref 132, .int x1, am_ju, am_ju, .int x4, .long l2, am_ju, .int (0 : Int32), am_ju, am_ju, am_ju, am_ju]) (am_lc (Or.inr rfl) (am_lc (Or.inr rfl) (am_lc (Or.inl rfl) (am_lc (Or.inr rfl) (am_lc (Or.inr rfl) (am_lc (Or.inr rfl) (am_lc (Or.inr rfl) (am_lc (Or.inr rfl) (am_lc (Or.inr rfl) (am_lc (Or.inr rfl) (am_lc (Or.inr rfl) (am_lc (Or.inr rfl) am_ln)))))))))))) ?_
  refine sl_MoveRow_addAll_R1_6 ?_ _ _ _ _ hM
  exact hx
theorem s_MoveRow_addAll_R1 {fu : Nat} {sn : Nat} {sx : Nat → Int32} {M : List am_C} {q : Nat × Nat} {T : TxT} {D : BdT} {r : RdT} {B : BdT} {V : MvT} {L : RwT} {F : RwT} {R : Nat → RwT} {S : SoT} {P : HeT} {w : RwT} {x1 : Int32} {l2 : Int64} {x4 : Int32} {ow : RwT} (hM : f_MoveRow_addAll fu x1 l2 x4 w = some ow) : am_cv 3 k_MoveRow_addAll [.ref 132, .int x1, .long l2, .int x4] (zl sn sx, xa xm T D r B (xb V L F (va_up R ((1 : Int32)).toNatClampNeg w) S P), M, q) (.inl none, (zl sn sx, xa xm T D r B (xb V L F (va_up R ((1 : Int32)).toNatClampNeg ow) S P), M, q)) := am_cv.of rfl (se_MoveRow_addAll_R1 (e := ow) (show y_MoveRow_addAll_R1 sn sx M q T D r B V L F R S P _ ow from rfl) hM)
theorem s_MoveRow_addAll_R1x {fu : Nat} {sn : Nat} {sx : Nat → Int32} {M : List am_C} {q : Nat × Nat} {T : TxT} {D : BdT} {r : RdT} {B : BdT} {V : MvT} {L : RwT} {F : RwT} {R : Nat → RwT} {S : SoT} {P : HeT} {x1 : Int32} {l2 : Int64} {x4 : Int32} {ow : RwT} (hM : f_MoveRow_addAll fu x1 l2 x4 (R ((1 : Int32)).toNatClampNeg) = some ow) : am_cv 3 k_MoveRow_addAll [.ref 132, .int x1, .long l2, .int x4] (zl sn sx, xa xm T D r B (xb V L F R S P), M, q) (.inl none, (zl sn sx, xa xm T D r B (xb V L F (va_up R ((1 : Int32)).toNatClampNeg ow) S P), M, q)) := by
  have h := s_MoveRow_addAll_R1 (sn := sn) (sx := sx) (M := M) (q := q) (R := R) (w := R ((1 : Int32)).toNatClampNeg) (T := T) (D := D) (r := r) (B := B) (V := V) (L := L) (F := F) (S := S) (P := P) hM
  rw [am_ups] at h
  exact h
def y_Mover_fillFrom_R1 (sn : Nat) (sx : Nat → Int32) (M : List am_C) (q : Nat × Nat) (T : TxT) (D : BdT) (r : RdT) (B : BdT) (V : MvT) (L : RwT) (F : RwT) (R : Nat → RwT) (S : SoT) (P : HeT) (oo : am_O) : RwT → Prop
  | ow => oo = (.inl none, (zl sn sx, xa xm T D r B (xb V L F (va_up R ((1 : Int32)).toNatClampNeg ow) S P), M, q))
theorem se_Mover_fillFrom_R1 {fu : Nat} {sn : Nat} {sx : Nat → Int32} {M : List am_C} {q : Nat × Nat} {T : TxT} {D : BdT} {r : RdT} {B : BdT} {V : MvT} {L : RwT} {F : RwT} {R : Nat → RwT} {S : SoT} {P : HeT} {w : RwT} {x1 : Int32} {oo : am_O} {e : RwT} (hx : y_Mover_fillFrom_R1 sn sx M q T D r B V L F R S P oo e) (hM : f_Mover_fillFrom fu x1 w B = some e) : am_ev 4 k_Mover_fillFrom (0, [.ref 123, .int x1, .ref 132], [], (zl sn sx, xa xm T D r B (xb V L F (va_up R ((1 : Int32)).toNatClampNeg w) S P), M, q)) oo := by
  unfold f_Mover_fillFrom at hM
  obtain ⟨rr, hc, hM⟩ := am_bind hM
  obtain ⟨r1, rfl⟩ : ∃ z, z = rr := ⟨_, rfl⟩
  refine am_ev.kg 7 (pc' := 9) (lv' := [.ref 123, .int x1, .ref 132]) (st' := [.int x1, .ref 123, .int x1, .ref 132]) (h' := (zl sn sx, xa xm T D r B (xb V L F (va_up R ((1 : Int32)).toNatClampNeg ((rw_told w), (0 : Int32))) S P), M, q)) (fun _ _ => rfl) ?_
  refine am_ev.call rfl rfl rfl ((s_Mover_targets hc).mono (by decide)) ?_
  show am_ev _ k_Mover_fillFrom (12, [.ref 123, .int x1, .ref 132], [.long r1, .int x1, .ref 132], (zl sn sx, xa xm T D r B (xb V L F (va_up R ((1 : Int32)).toNatClampNeg ((rw_told w), (0 : Int32))) S P), M, q)) oo
  obtain ⟨c1, hM⟩ := am_ifn hM
  refine am_ev.kc 4 18 [.ref 123, .int x1, .ref 132] [.int ((bd_men B) (x1).toNatClampNeg), .long r1, .int x1, .ref 132] (zl sn sx, xa xm T D r B (xb V L F (va_up R ((1 : Int32)).toNatClampNeg ((rw_told w), (0 : Int32))) S P), M, q) c1 (fun _ _ => rfl) ?_
  rcases am_if hM with ⟨c2, hM⟩ | ⟨c2, hM⟩
  · refine am_ev.kt 4 29 25 [.ref 123, .int x1, .ref 132] [.long r1, .int x1, .ref 132] (zl sn sx, xa xm T D r B (xb V L F (va_up R ((1 : Int32)).toNatClampNeg ((rw_told w), (0 : Int32))) S P), M, q) c2 (fun _ _ => rfl) ?_
    obtain ⟨rr, hc, hM⟩ := am_bind hM
    obtain ⟨wg2, rfl⟩ : ∃ z, z = rr := ⟨_, rfl⟩
    refine am_ev.kg 1 (pc' := 30) (lv' := [.ref 123, .int x1, .ref 132]) (st' := [.int (0 : Int32), .long r1, .int x1, .ref 132]) (h' := (zl sn sx, xa xm T D r B (xb V L F (va_up R ((1 : Int32)).toNatClampNeg ((rw_told w), (0 : Int32))) S P), M, q)) (fun _ _ => rfl) ?_
    refine am_ev.call rfl rfl rfl ((s_MoveRow_addAll_R1 hc).mono (by decide)) ?_
    show am_ev _ k_Mover_fillFrom (33, [.ref 123, .int x1, .ref 132], [], (zl sn sx, xa xm T D r B (xb V L F (va_up R ((1 : Int32)).toNatClampNeg wg2) S P), M, q)) oo
    cases hM
    cases hx
    exact am_ev.kf 1 (fun _ _ => rfl)
  · refine am_ev.ke 4 29 25 [.ref 123, .int x1, .ref 132] [.long r1, .int x1, .ref 132] (zl sn sx, xa xm T D r B (xb V L F (va_up R ((1 : Int32)).toNatClampNeg ((rw_told w), (0 : Int32))) S P), M, q) c2 (fun _ _ => rfl) ?_
    obtain ⟨rr, hc, hM⟩ := am_bind hM
    obtain ⟨wg3, rfl⟩ : ∃ z, z = rr := ⟨_, rfl⟩
    refine am_ev.kg 2 (pc' := 30) (lv' := [.ref 123, .int x1, .ref 132]) (st' := [.int (1 : Int32), .long r1, .int x1, .ref 132]) (h' := (zl sn sx, xa xm T D r B (xb V L F (va_up R ((1 : Int32)).toNatClampNeg ((rw_told w), (0 : Int32))) S P), M, q)) (fun _ _ => rfl) ?_
    refine am_ev.call rfl rfl rfl ((s_MoveRow_addAll_R1 hc).mono (by decide)) ?_
    show am_ev _ k_Mover_fillFrom (33, [.ref 123, .int x1, .ref 132], [], (zl sn sx, xa xm T D r B (xb V L F (va_up R ((1 : Int32)).toNatClampNeg wg3) S P), M, q)) oo
    cases hM
    cases hx
    exact am_ev.kf 1 (fun _ _ => rfl)
theorem s_Mover_fillFrom_R1 {fu : Nat} {sn : Nat} {sx : Nat → Int32} {M : List am_C} {q : Nat × Nat} {T : TxT} {D : BdT} {r : RdT} {B : BdT} {V : MvT} {L : RwT} {F : RwT} {R : Nat → RwT} {S : SoT} {P : HeT} {w : RwT} {x1 : Int32} {ow : RwT} (hM : f_Mover_fillFrom fu x1 w B = some ow) : am_cv 5 k_Mover_fillFrom [.ref 123, .int x1, .ref 132] (zl sn sx, xa xm T D r B (xb V L F (va_up R ((1 : Int32)).toNatClampNeg w) S P), M, q) (.inl none, (zl sn sx, xa xm T D r B (xb V L F (va_up R ((1 : Int32)).toNatClampNeg ow) S P), M, q)) := am_cv.of rfl (se_Mover_fillFrom_R1 (e := ow) (show y_Mover_fillFrom_R1 sn sx M q T D r B V L F R S P _ ow from rfl) hM)
theorem s_Mover_fillFrom_R1x {fu : Nat} {sn : Nat} {sx : Nat → Int32} {M : List am_C} {q : Nat × Nat} {T : TxT} {D : BdT} {r : RdT} {B : BdT} {V : MvT} {L : RwT} {F : RwT} {R : Nat → RwT} {S : SoT} {P : HeT} {x1 : Int32} {ow : RwT} (hM : f_Mover_fillFrom fu x1 (R ((1 : Int32)).toNatClampNeg) B = some ow) : am_cv 5 k_Mover_fillFrom [.ref 123, .int x1, .ref 132] (zl sn sx, xa xm T D r B (xb V L F R S P), M, q) (.inl none, (zl sn sx, xa xm T D r B (xb V L F (va_up R ((1 : Int32)).toNatClampNeg ow) S P), M, q)) := by
  have h := s_Mover_fillFrom_R1 (sn := sn) (sx := sx) (M := M) (q := q) (R := R) (w := R ((1 : Int32)).toNatClampNeg) (T := T) (D := D) (r := r) (B := B) (V := V) (L := L) (F := F) (S := S) (P := P) hM
  rw [am_ups] at h
  exact h
def y_MoveRow_bringFirst_R1 (sn : Nat) (sx : Nat → Int32) (M : List am_C) (q : Nat × Nat) (T : TxT) (D : BdT) (r : RdT) (B : BdT) (V : MvT) (L : RwT) (F : RwT) (R : Nat → RwT) (S : SoT) (P : HeT) (oo : am_O) : RwT → Prop
  | ow => oo = (.inl none, (zl sn sx, xa xm T D r B (xb V L F (va_up R ((1 : Int32)).toNatClampNeg ow) S P), M, q))
def x_MoveRow_bringFirst_R1_2 (sn : Nat) (sx : Nat → Int32) (M : List am_C) (q : Nat × Nat) (T : TxT) (D : BdT) (r : RdT) (B : BdT) (V : MvT) (L : RwT) (F : RwT) (R : Nat → RwT) (S : SoT) (P : HeT) (w : RwT) (x1 : Int32) (oo : am_O) : ((Int32)) ⊕ (RwT) → Prop
  | (.inl x2) => am_ev 1 k_MoveRow_bringFirst (20, [.ref 132, .int x1, .int x2], [], (zl sn sx, xa xm T D r B (xb V L F (va_up R ((1 : Int32)).toNatClampNeg w) S P), M, q)) oo
  | .inr ow => oo = (.inl none, (zl sn sx, xa xm T D r B (xb V L F (va_up R ((1 : Int32)).toNatClampNeg ow) S P), M, q))
theorem sb_MoveRow_bringFirst_R1_2 {fu : Nat} {sn : Nat} {sx : Nat → Int32} {M : List am_C} {q : Nat × Nat} {T : TxT} {D : BdT} {r : RdT} {B : BdT} {V : MvT} {L : RwT} {F : RwT} {R : Nat → RwT} {S : SoT} {P : HeT} {w : RwT} {x1 : Int32} {oo : am_O} {e : ((Int32)) ⊕ (RwT)} {gg : Int32 → Option (((Int32)) ⊕ (RwT))} (hx : x_MoveRow_bringFirst_R1_2 sn sx M q T D r B V L F R S P w x1 oo e) (hg : ∀ (x2 : Int32), gg x2 = some e → am_ev 1 k_MoveRow_bringFirst (2, [.ref 132, .int x1, .int x2], [], (zl sn sx, xa xm T D r B (xb V L F (va_up R ((1 : Int32)).toNatClampNeg w) S P), M, q)) oo) {x2 : Int32} (hM : b_MoveRow_bringFirst_2 fu w x1 gg x2 = some e) : am_ev 1 k_MoveRow_bringFirst (2, [.ref 132, .int x1, .int x2], [], (zl sn sx, xa xm T D r B (xb V L F (va_up R ((1 : Int32)).toNatClampNeg w) S P), M, q)) oo := by
  unfold b_MoveRow_bringFirst_2 at hM
  rcases am_if hM with ⟨c1, hM⟩ | ⟨c1, hM⟩
  · refine am_ev.kt 4 46 10 [.ref 132, .int x1, .int x2] [] (zl sn sx, xa xm T D r B (xb V L F (va_up R ((1 : Int32)).toNatClampNeg w) S P), M, q) c1 (fun _ _ => rfl) ?_
    cases hM
    cases hx
    exact am_ev.kf 1 (fun _ _ => rfl)
  · refine am_ev.ke 4 46 10 [.ref 132, .int x1, .int x2] [] (zl sn sx, xa xm T D r B (xb V L F (va_up R ((1 : Int32)).toNatClampNeg w) S P), M, q) c1 (fun _ _ => rfl) ?_
    obtain ⟨c2, hM⟩ := am_ifn hM
    refine am_ev.kc 4 16 [.ref 132, .int x1, .int x2] [.int ((rw_told w) (x2).toNatClampNeg)] (zl sn sx, xa xm T D r B (xb V L F (va_up R ((1 : Int32)).toNatClampNeg w) S P), M, q) c2 (fun _ _ => rfl) ?_
    rcases am_if hM with ⟨c3, hM⟩ | ⟨c3, hM⟩
    · refine am_ev.kt 2 40 20 [.ref 132, .int x1, .int x2] [] (zl sn sx, xa xm T D r B (xb V L F (va_up R ((1 : Int32)).toNatClampNeg w) S P), M, q) c3 (fun _ _ => rfl) ?_
      refine am_ev.kg 2 (pc' := 2) (lv' := [.ref 132, .int x1, .int (x2 + (1 : Int32))]) (st' := []) (h' := (zl sn sx, xa xm T D r B (xb V L F (va_up R ((1 : Int32)).toNatClampNeg w) S P), M, q)) (fun _ _ => rfl) ?_
      exact hg _ hM
    · refine am_ev.ke 2 40 20 [.ref 132, .int x1, .int x2] [] (zl sn sx, xa xm T D r B (xb V L F (va_up R ((1 : Int32)).toNatClampNeg w) S P), M, q) c3 (fun _ _ => rfl) ?_
      cases hM
      exact hx
theorem sl_MoveRow_bringFirst_R1_2 {fu : Nat} {sn : Nat} {sx : Nat → Int32} {M : List am_C} {q : Nat × Nat} {T : TxT} {D : BdT} {r : RdT} {B : BdT} {V : MvT} {L : RwT} {F : RwT} {R : Nat → RwT} {S : SoT} {P : HeT} {w : RwT} {x1 : Int32} {oo : am_O} {e : ((Int32)) ⊕ (RwT)} (hx : x_MoveRow_bringFirst_R1_2 sn sx M q T D r B V L F R S P w x1 oo e) : ∀ (n : Nat) (x2 : Int32), l_MoveRow_bringFirst_2 fu w x1 n x2 = some e → am_ev 1 k_MoveRow_bringFirst (2, [.ref 132, .int x1, .int x2], [], (zl sn sx, xa xm T D r B (xb V L F (va_up R ((1 : Int32)).toNatClampNeg w) S P), M, q)) oo
  | 0, _, hM => by have h : (none : Option (((Int32)) ⊕ (RwT))) = some e := hM; cases h
  | n + 1, _, hM => sb_MoveRow_bringFirst_R1_2 hx (fun _ hM => sl_MoveRow_bringFirst_R1_2 hx n _ hM) hM
theorem sj_MoveRow_bringFirst_R1_20 {fu : Nat} {sn : Nat} {sx : Nat → Int32} {M : List am_C} {q : Nat × Nat} {T : TxT} {D : BdT} {r : RdT} {B : BdT} {V : MvT} {L : RwT} {F : RwT} {R : Nat → RwT} {S : SoT} {P : HeT} {w : RwT} {x1 : Int32} {x2 : Int32} {oo : am_O} {e : RwT} (hx : y_MoveRow_bringFirst_R1 sn sx M q T D r B V L F R S P oo e) (hM : j_MoveRow_bringFirst_20 fu w x1 x2 = some e) : am_ev 1 k_MoveRow_bringFirst (20, [.ref 132, .int x1, .int x2], [], (zl sn sx, xa xm T D r B (xb V L F (va_up R ((1 : Int32)).toNatClampNeg w) S P), M, q)) oo := by
  unfold j_MoveRow_bringFirst_20 at hM
  obtain ⟨c4, hM⟩ := am_ifn hM
  refine am_ev.kc 7 31 [.ref 132, .int x1, .int x2] [.int ((rw_told w) ((0 : Int32)).toNatClampNeg), .int x2, .ref 133] (zl sn sx, xa xm T D r B (xb V L F (va_up R ((1 : Int32)).toNatClampNeg w) S P), M, q) c4 (fun _ _ => rfl) ?_
  obtain ⟨c5, hM⟩ := am_ifn hM
  refine am_ev.kc 1 32 [.ref 132, .int x1, .int x2] [] (zl sn sx, xa xm T D r B (xb V L F (va_up R ((1 : Int32)).toNatClampNeg ((upd (rw_told w) (x2).toNatClampNeg ((rw_told w) ((0 : Int32)).toNatClampNeg)), (rw_count w))) S P), M, q) c5 (fun _ _ => rfl) ?_
  obtain ⟨c6, hM⟩ := am_ifn hM
  refine am_ev.kc 5 39 [.ref 132, .int x1, .int x2] [] (zl sn sx, xa xm T D r B (xb V L F (va_up R ((1 : Int32)).toNatClampNeg ((upd (upd (rw_told w) (x2).toNatClampNeg ((rw_told w) ((0 : Int32)).toNatClampNeg)) ((0 : Int32)).toNatClampNeg x1), (rw_count w))) S P), M, q) c6 (fun _ _ => rfl) ?_
  cases hM
  cases hx
  exact am_ev.kf 1 (fun _ _ => rfl)
theorem se_MoveRow_bringFirst_R1 {fu : Nat} {sn : Nat} {sx : Nat → Int32} {M : List am_C} {q : Nat × Nat} {T : TxT} {D : BdT} {r : RdT} {B : BdT} {V : MvT} {L : RwT} {F : RwT} {R : Nat → RwT} {S : SoT} {P : HeT} {w : RwT} {x1 : Int32} {oo : am_O} {e : RwT} (hx : y_MoveRow_bringFirst_R1 sn sx M q T D r B V L F R S P oo e) (hM : f_MoveRow_bringFirst fu x1 w = some e) : am_ev 1 k_MoveRow_bringFirst (0, [.ref 132, .int x1, am_ju], [], (zl sn sx, xa xm T D r B (xb V L F (va_up R ((1 : Int32)).toNatClampNeg w) S P), M, q)) oo := by
  unfold f_MoveRow_bringFirst at hM
  refine am_ev.kg 2 (pc' := 2) (lv' := [.ref 132, .int x1, .int (1 : Int32)]) (st' := []) (h' := (zl sn sx, xa xm T D r B (xb V L F (va_up R ((1 : Int32)).toNatClampNeg w) S P), M, q)) (fun _ _ => rfl) ?_
  obtain ⟨z, hz, hM⟩ := am_bind hM
  rcases z with z | z
  ·
    obtain ⟨x2_1, rfl⟩ : ∃ y, y = z := ⟨_, rfl⟩
    refine sl_MoveRow_bringFirst_R1_2 ?_ _ _ hz
    show am_ev 1 k_MoveRow_bringFirst (20, [.ref 132, .int x1, .int x2_1], [], (zl sn sx, xa xm T D r B (xb V L F (va_up R ((1 : Int32)).toNatClampNeg w) S P), M, q)) oo
    exact sj_MoveRow_bringFirst_R1_20 hx hM
  ·
    cases hM
    refine sl_MoveRow_bringFirst_R1_2 ?_ _ _ hz
    exact hx
theorem s_MoveRow_bringFirst_R1 {fu : Nat} {sn : Nat} {sx : Nat → Int32} {M : List am_C} {q : Nat × Nat} {T : TxT} {D : BdT} {r : RdT} {B : BdT} {V : MvT} {L : RwT} {F : RwT} {R : Nat → RwT} {S : SoT} {P : HeT} {w : RwT} {x1 : Int32} {ow : RwT} (hM : f_MoveRow_bringFirst fu x1 w = some ow) : am_cv 2 k_MoveRow_bringFirst [.ref 132, .int x1] (zl sn sx, xa xm T D r B (xb V L F (va_up R ((1 : Int32)).toNatClampNeg w) S P), M, q) (.inl none, (zl sn sx, xa xm T D r B (xb V L F (va_up R ((1 : Int32)).toNatClampNeg ow) S P), M, q)) := am_cv.of rfl (se_MoveRow_bringFirst_R1 (e := ow) (show y_MoveRow_bringFirst_R1 sn sx M q T D r B V L F R S P _ ow from rfl) hM)
theorem s_MoveRow_bringFirst_R1x {fu : Nat} {sn : Nat} {sx : Nat → Int32} {M : List am_C} {q : Nat × Nat} {T : TxT} {D : BdT} {r : RdT} {B : BdT} {V : MvT} {L : RwT} {F : RwT} {R : Nat → RwT} {S : SoT} {P : HeT} {x1 : Int32} {ow : RwT} (hM : f_MoveRow_bringFirst fu x1 (R ((1 : Int32)).toNatClampNeg) = some ow) : am_cv 2 k_MoveRow_bringFirst [.ref 132, .int x1] (zl sn sx, xa xm T D r B (xb V L F R S P), M, q) (.inl none, (zl sn sx, xa xm T D r B (xb V L F (va_up R ((1 : Int32)).toNatClampNeg ow) S P), M, q)) := by
  have h := s_MoveRow_bringFirst_R1 (sn := sn) (sx := sx) (M := M) (q := q) (R := R) (w := R ((1 : Int32)).toNatClampNeg) (T := T) (D := D) (r := r) (B := B) (V := V) (L := L) (F := F) (S := S) (P := P) hM
  rw [am_ups] at h
  exact h
