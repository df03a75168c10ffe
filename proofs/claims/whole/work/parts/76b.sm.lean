def y_Reader_hasGoodPassed (sn : Nat) (sx : Nat → Int32) (M : List am_C) (q : Nat × Nat) (c0 : am_C) (tl : List am_C) (T : TxT) (D : BdT) (r : RdT) (B : BdT) (oo : am_O) : Int32 → Prop
  | ov => oo = (.inl (some (.int ov)), (zl sn sx, xa c0 T D r B tl, M, q))
theorem sj_Reader_hasGoodPassed_62 {sn : Nat} {sx : Nat → Int32} {M : List am_C} {q : Nat × Nat} {c0 : am_C} {tl : List am_C} {T : TxT} {D : BdT} {r : RdT} {B : BdT} {x1 : Int32} {x2 : Int32} {x3 : Int32} {s0 : Int32} {oo : am_O} {e : Int32} (hx : y_Reader_hasGoodPassed sn sx M q c0 tl T D r B oo e) (hM : j_Reader_hasGoodPassed_62 D x1 x2 x3 s0 = some e) : am_ev 2 k_Reader_hasGoodPassed (62, [.ref 113, .int x1, .int x2, .int x3, am_ju], [.int s0], (zl sn sx, xa c0 T D r B tl, M, q)) oo := by
  unfold j_Reader_hasGoodPassed_62 at hM
  obtain ⟨c1, hM⟩ := am_ifn hM
  refine am_ev.kc 6 73 [.ref 113, .int x1, .int x2, .int x3, .int s0] [.int ((bd_men D) (x1).toNatClampNeg)] (zl sn sx, xa c0 T D r B tl, M, q) c1 (fun _ _ => rfl) ?_
  rcases am_if hM with ⟨c2, hM⟩ | ⟨c2, hM⟩
  · refine am_ev.kt 1 122 76 [.ref 113, .int x1, .int x2, .int x3, .int s0] [] (zl sn sx, xa c0 T D r B tl, M, q) c2 (fun _ _ => rfl) ?_
    cases hM
    cases hx
    exact am_ev.kf 2 (fun _ _ => rfl)
  · refine am_ev.ke 1 122 76 [.ref 113, .int x1, .int x2, .int x3, .int s0] [] (zl sn sx, xa c0 T D r B tl, M, q) c2 (fun _ _ => rfl) ?_
    obtain ⟨c3, hM⟩ := am_ifn hM
    refine am_ev.kc 7 87 [.ref 113, .int x1, .int x2, .int x3, .int s0] [.int ((bd_men D) ((x1 - x3)).toNatClampNeg)] (zl sn sx, xa c0 T D r B tl, M, q) c3 (fun _ _ => rfl) ?_
    rcases am_if hM with ⟨c4, hM⟩ | ⟨c4, hM⟩
    · refine am_ev.kt 2 122 92 [.ref 113, .int x1, .int x2, .int x3, .int s0] [] (zl sn sx, xa c0 T D r B tl, M, q) c4 (fun _ _ => rfl) ?_
      cases hM
      cases hx
      exact am_ev.kf 2 (fun _ _ => rfl)
    · refine am_ev.ke 2 122 92 [.ref 113, .int x1, .int x2, .int x3, .int s0] [] (zl sn sx, xa c0 T D r B tl, M, q) c4 (fun _ _ => rfl) ?_
      obtain ⟨c5, hM⟩ := am_ifn hM
      refine am_ev.kc 7 103 [.ref 113, .int x1, .int x2, .int x3, .int s0] [.int ((bd_men D) ((x1 + x3)).toNatClampNeg)] (zl sn sx, xa c0 T D r B tl, M, q) c5 (fun _ _ => rfl) ?_
      rcases am_if hM with ⟨c6, hM⟩ | ⟨c6, hM⟩
      · refine am_ev.kt 1 122 106 [.ref 113, .int x1, .int x2, .int x3, .int s0] [] (zl sn sx, xa c0 T D r B tl, M, q) c6 (fun _ _ => rfl) ?_
        cases hM
        cases hx
        exact am_ev.kf 2 (fun _ _ => rfl)
      · refine am_ev.ke 1 122 106 [.ref 113, .int x1, .int x2, .int x3, .int s0] [] (zl sn sx, xa c0 T D r B tl, M, q) c6 (fun _ _ => rfl) ?_
        obtain ⟨rr, hc, hM⟩ := am_bind hM
        obtain ⟨r1, rfl⟩ : ∃ z, z = rr := ⟨_, rfl⟩
        refine am_ev.kg 4 (pc' := 112) (lv' := [.ref 113, .int x1, .int x2, .int x3, .int s0]) (st' := [.int x2, .int x1, .ref 104]) (h' := (zl sn sx, xa c0 T D r B tl, M, q)) (fun _ _ => rfl) ?_
        refine am_ev.call rfl rfl rfl ((s_Board_pawnAttacks_D hc).mono (by decide)) ?_
        show am_ev _ k_Reader_hasGoodPassed (115, [.ref 113, .int x1, .int x2, .int x3, .int s0], [.int r1], (zl sn sx, xa c0 T D r B tl, M, q)) oo
        rcases am_if hM with ⟨c7, hM⟩ | ⟨c7, hM⟩
        · refine am_ev.kt 1 122 118 [.ref 113, .int x1, .int x2, .int x3, .int s0] [] (zl sn sx, xa c0 T D r B tl, M, q) c7 (fun _ _ => rfl) ?_
          cases hM
          cases hx
          exact am_ev.kf 2 (fun _ _ => rfl)
        · refine am_ev.ke 1 122 118 [.ref 113, .int x1, .int x2, .int x3, .int s0] [] (zl sn sx, xa c0 T D r B tl, M, q) c7 (fun _ _ => rfl) ?_
          cases hM
          cases hx
          exact am_ev.kf 3 (fun _ _ => rfl)
theorem sj_Reader_hasGoodPassed_51 {sn : Nat} {sx : Nat → Int32} {M : List am_C} {q : Nat × Nat} {c0 : am_C} {tl : List am_C} {T : TxT} {D : BdT} {r : RdT} {B : BdT} {x1 : Int32} {x2 : Int32} {s0 : Int32} {oo : am_O} {e : Int32} (hx : y_Reader_hasGoodPassed sn sx M q c0 tl T D r B oo e) (hM : j_Reader_hasGoodPassed_51 D x1 x2 s0 = some e) : am_ev 2 k_Reader_hasGoodPassed (51, [.ref 113, .int x1, .int x2, am_ju, am_ju], [.int s0], (zl sn sx, xa c0 T D r B tl, M, q)) oo := by
  unfold j_Reader_hasGoodPassed_51 at hM
  rcases am_if hM with ⟨c8, hM⟩ | ⟨c8, hM⟩
  · refine am_ev.kt 3 61 56 [.ref 113, .int x1, .int x2, .int s0, am_ju] [] (zl sn sx, xa c0 T D r B tl, M, q) c8 (fun _ _ => rfl) ?_
    refine am_ev.kg 1 (pc' := 62) (lv' := [.ref 113, .int x1, .int x2, .int s0, am_ju]) (st' := [.int (1 : Int32)]) (h' := (zl sn sx, xa c0 T D r B tl, M, q)) (fun _ _ => rfl) ?_
    exact sj_Reader_hasGoodPassed_62 hx hM
  · refine am_ev.ke 3 61 56 [.ref 113, .int x1, .int x2, .int s0, am_ju] [] (zl sn sx, xa c0 T D r B tl, M, q) c8 (fun _ _ => rfl) ?_
    refine am_ev.kg 2 (pc' := 62) (lv' := [.ref 113, .int x1, .int x2, .int s0, am_ju]) (st' := [.int (9 : Int32)]) (h' := (zl sn sx, xa c0 T D r B tl, M, q)) (fun _ _ => rfl) ?_
    exact sj_Reader_hasGoodPassed_62 hx hM
theorem sj_Reader_hasGoodPassed_35 {sn : Nat} {sx : Nat → Int32} {M : List am_C} {q : Nat × Nat} {c0 : am_C} {tl : List am_C} {T : TxT} {D : BdT} {r : RdT} {B : BdT} {x1 : Int32} {x2 : Int32} {s0 : Int32} {s1 : Int32} {oo : am_O} {e : Int32} (hx : y_Reader_hasGoodPassed sn sx M q c0 tl T D r B oo e) (hM : j_Reader_hasGoodPassed_35 D x1 x2 s0 s1 = some e) : am_ev 2 k_Reader_hasGoodPassed (35, [.ref 113, .int x1, .int x2, am_ju, am_ju], [.int s1, .int s0], (zl sn sx, xa c0 T D r B tl, M, q)) oo := by
  unfold j_Reader_hasGoodPassed_35 at hM
  rcases am_if hM with ⟨c9, hM⟩ | ⟨c9, hM⟩
  · refine am_ev.kt 1 40 38 [.ref 113, .int x1, .int x2, am_ju, am_ju] [] (zl sn sx, xa c0 T D r B tl, M, q) c9 (fun _ _ => rfl) ?_
    rcases am_if hM with ⟨c10, hM⟩ | ⟨c10, hM⟩
    · refine am_ev.kt 2 49 44 [.ref 113, .int x1, .int x2, am_ju, am_ju] [] (zl sn sx, xa c0 T D r B tl, M, q) c10 (fun _ _ => rfl) ?_
      refine am_ev.kg 1 (pc' := 51) (lv' := [.ref 113, .int x1, .int x2, am_ju, am_ju]) (st' := [.int (-8 : Int32)]) (h' := (zl sn sx, xa c0 T D r B tl, M, q)) (fun _ _ => rfl) ?_
      exact sj_Reader_hasGoodPassed_51 hx hM
    · refine am_ev.ke 2 49 44 [.ref 113, .int x1, .int x2, am_ju, am_ju] [] (zl sn sx, xa c0 T D r B tl, M, q) c10 (fun _ _ => rfl) ?_
      refine am_ev.kg 2 (pc' := 51) (lv' := [.ref 113, .int x1, .int x2, am_ju, am_ju]) (st' := [.int (8 : Int32)]) (h' := (zl sn sx, xa c0 T D r B tl, M, q)) (fun _ _ => rfl) ?_
      exact sj_Reader_hasGoodPassed_51 hx hM
  · refine am_ev.ke 1 40 38 [.ref 113, .int x1, .int x2, am_ju, am_ju] [] (zl sn sx, xa c0 T D r B tl, M, q) c9 (fun _ _ => rfl) ?_
    cases hM
    cases hx
    exact am_ev.kf 2 (fun _ _ => rfl)
theorem se_Reader_hasGoodPassed {sn : Nat} {sx : Nat → Int32} {M : List am_C} {q : Nat × Nat} {c0 : am_C} {tl : List am_C} {T : TxT} {D : BdT} {r : RdT} {B : BdT} {oo : am_O} {e : Int32} (hx : y_Reader_hasGoodPassed sn sx M q c0 tl T D r B oo e) (hM : f_Reader_hasGoodPassed D = some e) : am_ev 2 k_Reader_hasGoodPassed (0, [.ref 113, am_ju, am_ju, am_ju, am_ju], [], (zl sn sx, xa c0 T D r B tl, M, q)) oo := by
  unfold f_Reader_hasGoodPassed at hM
  rcases am_if hM with ⟨c11, hM⟩ | ⟨c11, hM⟩
  · refine am_ev.kt 7 15 13 [.ref 113, .int (bd_passed D), am_ju, am_ju, am_ju] [] (zl sn sx, xa c0 T D r B tl, M, q) c11 (fun _ _ => rfl) ?_
    rcases am_if hM with ⟨c12, hM⟩ | ⟨c12, hM⟩
    · refine am_ev.kt 9 34 30 [.ref 113, .int (bd_passed D), .int (bd_side D), am_ju, am_ju] [.int ((bd_passed D) >>> ((3 : Int32) &&& 31))] (zl sn sx, xa c0 T D r B tl, M, q) c12 (fun _ _ => rfl) ?_
      refine am_ev.kg 1 (pc' := 35) (lv' := [.ref 113, .int (bd_passed D), .int (bd_side D), am_ju, am_ju]) (st' := [.int (2 : Int32), .int ((bd_passed D) >>> ((3 : Int32) &&& 31))]) (h' := (zl sn sx, xa c0 T D r B tl, M, q)) (fun _ _ => rfl) ?_
      exact sj_Reader_hasGoodPassed_35 hx hM
    · refine am_ev.ke 9 34 30 [.ref 113, .int (bd_passed D), .int (bd_side D), am_ju, am_ju] [.int ((bd_passed D) >>> ((3 : Int32) &&& 31))] (zl sn sx, xa c0 T D r B tl, M, q) c12 (fun _ _ => rfl) ?_
      refine am_ev.kg 2 (pc' := 35) (lv' := [.ref 113, .int (bd_passed D), .int (bd_side D), am_ju, am_ju]) (st' := [.int (5 : Int32), .int ((bd_passed D) >>> ((3 : Int32) &&& 31))]) (h' := (zl sn sx, xa c0 T D r B tl, M, q)) (fun _ _ => rfl) ?_
      exact sj_Reader_hasGoodPassed_35 hx hM
  · refine am_ev.ke 7 15 13 [.ref 113, .int (bd_passed D), am_ju, am_ju, am_ju] [] (zl sn sx, xa c0 T D r B tl, M, q) c11 (fun _ _ => rfl) ?_
    cases hM
    cases hx
    exact am_ev.kf 2 (fun _ _ => rfl)
theorem s_Reader_hasGoodPassed {sn : Nat} {sx : Nat → Int32} {M : List am_C} {q : Nat × Nat} {c0 : am_C} {tl : List am_C} {T : TxT} {D : BdT} {r : RdT} {B : BdT} {ov : Int32} (hM : f_Reader_hasGoodPassed D = some ov) : am_cv 3 k_Reader_hasGoodPassed [.ref 113] (zl sn sx, xa c0 T D r B tl, M, q) (.inl (some (.int ov)), (zl sn sx, xa c0 T D r B tl, M, q)) := am_cv.of rfl (se_Reader_hasGoodPassed (e := ov) (show y_Reader_hasGoodPassed sn sx M q c0 tl T D r B _ ov from rfl) hM)
def y_Reader_read (sn : Nat) (sx : Nat → Int32) (M : List am_C) (q : Nat × Nat) (c0 : am_C) (tl : List am_C) (T : TxT) (B : BdT) (oo : am_O) : Int32 × BdT × RdT → Prop
  | (ov, oD, or) => oo = (.inl (some (.int ov)), (zl sn sx, xa c0 T oD or B tl, M, q))
theorem se_Reader_read {fu : Nat} {sn : Nat} {sx : Nat → Int32} {M : List am_C} {q : Nat × Nat} {c0 : am_C} {tl : List am_C} {T : TxT} {D : BdT} {r : RdT} {B : BdT} {oo : am_O} {e : Int32 × BdT × RdT} (hx : y_Reader_read sn sx M q c0 tl T B oo e) (hM : f_Reader_read fu T D r = some e) : am_ev 5 k_Reader_read (0, [.ref 113], [], (zl sn sx, xa c0 T D r B tl, M, q)) oo := by
  unfold f_Reader_read at hM
  obtain ⟨rr, hc, hM⟩ := am_bind hM
  obtain ⟨bg1, rfl⟩ : ∃ z, z = rr := ⟨_, rfl⟩
  refine am_ev.kg 5 (pc' := 9) (lv' := [.ref 113]) (st' := [.ref 104]) (h' := (zl sn sx, xa c0 T D (0 : Int32) B tl, M, q)) (fun _ _ => rfl) ?_
  refine am_ev.call rfl rfl rfl ((s_Board_clear_D hc).mono (by decide)) ?_
  show am_ev _ k_Reader_read (12, [.ref 113], [], (zl sn sx, xa c0 T bg1 (0 : Int32) B tl, M, q)) oo
  obtain ⟨rr, hc, hM⟩ := am_bind hM
  obtain ⟨r2, dg3, rg4⟩ := rr
  refine am_ev.kg 1 (pc' := 13) (lv' := [.ref 113]) (st' := [.ref 113]) (h' := (zl sn sx, xa c0 T bg1 (0 : Int32) B tl, M, q)) (fun _ _ => rfl) ?_
  refine am_ev.call rfl rfl rfl ((s_Reader_isWell hc).mono (by decide)) ?_
  show am_ev _ k_Reader_read (16, [.ref 113], [.int r2], (zl sn sx, xa c0 T dg3 rg4 B tl, M, q)) oo
  rcases am_if hM with ⟨c1, hM⟩ | ⟨c1, hM⟩
  · refine am_ev.kt 1 21 19 [.ref 113] [] (zl sn sx, xa c0 T dg3 rg4 B tl, M, q) c1 (fun _ _ => rfl) ?_
    obtain ⟨rr, hc, hM⟩ := am_bind hM
    obtain ⟨r5, dg6⟩ := rr
    refine am_ev.kg 1 (pc' := 22) (lv' := [.ref 113]) (st' := [.ref 113]) (h' := (zl sn sx, xa c0 T dg3 rg4 B tl, M, q)) (fun _ _ => rfl) ?_
    refine am_ev.call rfl rfl rfl ((s_Reader_hasTwoKings hc).mono (by decide)) ?_
    show am_ev _ k_Reader_read (25, [.ref 113], [.int r5], (zl sn sx, xa c0 T dg6 rg4 B tl, M, q)) oo
    rcases am_if hM with ⟨c2, hM⟩ | ⟨c2, hM⟩
    · refine am_ev.kt 1 30 28 [.ref 113] [] (zl sn sx, xa c0 T dg6 rg4 B tl, M, q) c2 (fun _ _ => rfl) ?_
      obtain ⟨rr, hc, hM⟩ := am_bind hM
      obtain ⟨r7, rfl⟩ : ∃ z, z = rr := ⟨_, rfl⟩
      refine am_ev.kg 1 (pc' := 31) (lv' := [.ref 113]) (st' := [.ref 113]) (h' := (zl sn sx, xa c0 T dg6 rg4 B tl, M, q)) (fun _ _ => rfl) ?_
      refine am_ev.call rfl rfl rfl ((s_Reader_hasPawnAtEnd hc).mono (by decide)) ?_
      show am_ev _ k_Reader_read (34, [.ref 113], [.int r7], (zl sn sx, xa c0 T dg6 rg4 B tl, M, q)) oo
      rcases am_if hM with ⟨c3, hM⟩ | ⟨c3, hM⟩
      · refine am_ev.kt 1 39 37 [.ref 113] [] (zl sn sx, xa c0 T dg6 rg4 B tl, M, q) c3 (fun _ _ => rfl) ?_
        obtain ⟨rr, hc, hM⟩ := am_bind hM
        obtain ⟨r8, rfl⟩ : ∃ z, z = rr := ⟨_, rfl⟩
        refine am_ev.kg 2 (pc' := 43) (lv' := [.ref 113]) (st' := [.ref 104]) (h' := (zl sn sx, xa c0 T dg6 rg4 B tl, M, q)) (fun _ _ => rfl) ?_
        refine am_ev.call rfl rfl rfl ((s_Board_isLegal_D hc).mono (by decide)) ?_
        show am_ev _ k_Reader_read (46, [.ref 113], [.int r8], (zl sn sx, xa c0 T dg6 rg4 B tl, M, q)) oo
        rcases am_if hM with ⟨c4, hM⟩ | ⟨c4, hM⟩
        · refine am_ev.kt 1 51 49 [.ref 113] [] (zl sn sx, xa c0 T dg6 rg4 B tl, M, q) c4 (fun _ _ => rfl) ?_
          obtain ⟨rr, hc, hM⟩ := am_bind hM
          obtain ⟨r9, rfl⟩ : ∃ z, z = rr := ⟨_, rfl⟩
          refine am_ev.kg 1 (pc' := 52) (lv' := [.ref 113]) (st' := [.ref 113]) (h' := (zl sn sx, xa c0 T dg6 rg4 B tl, M, q)) (fun _ _ => rfl) ?_
          refine am_ev.call rfl rfl rfl ((s_Reader_hasGoodRights hc).mono (by decide)) ?_
          show am_ev _ k_Reader_read (55, [.ref 113], [.int r9], (zl sn sx, xa c0 T dg6 rg4 B tl, M, q)) oo
          rcases am_if hM with ⟨c5, hM⟩ | ⟨c5, hM⟩
          · refine am_ev.kt 1 60 58 [.ref 113] [] (zl sn sx, xa c0 T dg6 rg4 B tl, M, q) c5 (fun _ _ => rfl) ?_
            obtain ⟨rr, hc, hM⟩ := am_bind hM
            obtain ⟨r10, rfl⟩ : ∃ z, z = rr := ⟨_, rfl⟩
            refine am_ev.kg 1 (pc' := 61) (lv' := [.ref 113]) (st' := [.ref 113]) (h' := (zl sn sx, xa c0 T dg6 rg4 B tl, M, q)) (fun _ _ => rfl) ?_
            refine am_ev.call rfl rfl rfl ((s_Reader_hasGoodPassed hc).mono (by decide)) ?_
            show am_ev _ k_Reader_read (64, [.ref 113], [.int r10], (zl sn sx, xa c0 T dg6 rg4 B tl, M, q)) oo
            rcases am_if hM with ⟨c6, hM⟩ | ⟨c6, hM⟩
            · refine am_ev.kt 1 71 67 [.ref 113] [] (zl sn sx, xa c0 T dg6 rg4 B tl, M, q) c6 (fun _ _ => rfl) ?_
              cases hM
              cases hx
              exact am_ev.kf 2 (fun _ _ => rfl)
            · refine am_ev.ke 1 71 67 [.ref 113] [] (zl sn sx, xa c0 T dg6 rg4 B tl, M, q) c6 (fun _ _ => rfl) ?_
              cases hM
              cases hx
              exact am_ev.kf 3 (fun _ _ => rfl)
          · refine am_ev.ke 1 60 58 [.ref 113] [] (zl sn sx, xa c0 T dg6 rg4 B tl, M, q) c5 (fun _ _ => rfl) ?_
            cases hM
            cases hx
            exact am_ev.kf 2 (fun _ _ => rfl)
        · refine am_ev.ke 1 51 49 [.ref 113] [] (zl sn sx, xa c0 T dg6 rg4 B tl, M, q) c4 (fun _ _ => rfl) ?_
          cases hM
          cases hx
          exact am_ev.kf 2 (fun _ _ => rfl)
      · refine am_ev.ke 1 39 37 [.ref 113] [] (zl sn sx, xa c0 T dg6 rg4 B tl, M, q) c3 (fun _ _ => rfl) ?_
        cases hM
        cases hx
        exact am_ev.kf 2 (fun _ _ => rfl)
    · refine am_ev.ke 1 30 28 [.ref 113] [] (zl sn sx, xa c0 T dg6 rg4 B tl, M, q) c2 (fun _ _ => rfl) ?_
      cases hM
      cases hx
      exact am_ev.kf 2 (fun _ _ => rfl)
  · refine am_ev.ke 1 21 19 [.ref 113] [] (zl sn sx, xa c0 T dg3 rg4 B tl, M, q) c1 (fun _ _ => rfl) ?_
    cases hM
    cases hx
    exact am_ev.kf 2 (fun _ _ => rfl)
theorem s_Reader_read {fu : Nat} {sn : Nat} {sx : Nat → Int32} {M : List am_C} {q : Nat × Nat} {c0 : am_C} {tl : List am_C} {T : TxT} {D : BdT} {r : RdT} {B : BdT} {ov : Int32} {oD : BdT} {or : RdT} (hM : f_Reader_read fu T D r = some (ov, oD, or)) : am_cv 6 k_Reader_read [.ref 113] (zl sn sx, xa c0 T D r B tl, M, q) (.inl (some (.int ov)), (zl sn sx, xa c0 T oD or B tl, M, q)) := am_cv.of rfl (se_Reader_read (e := (ov, oD, or)) (show y_Reader_read sn sx M q c0 tl T B _ (ov, oD, or) from rfl) hM)
def y_Board_copy_BD (sn : Nat) (sx : Nat → Int32) (M : List am_C) (q : Nat × Nat) (c0 : am_C) (tl : List am_C) (T : TxT) (r : RdT) (o : BdT) (oo : am_O) : BdT → Prop
  | ob => oo = (.inl none, (zl sn sx, xa c0 T o r ob tl, M, q))
def x_Board_copy_BD_2 (sn : Nat) (sx : Nat → Int32) (M : List am_C) (q : Nat × Nat) (c0 : am_C) (tl : List am_C) (T : TxT) (r : RdT) (o : BdT) (oo : am_O) : (BdT) → Prop
  | b => am_ev 1 k_Board_copy (26, [.ref 114, .ref 104, am_ju], [], (zl sn sx, xa c0 T o r b tl, M, q)) oo
def x_Board_copy_BD_28 (sn : Nat) (sx : Nat → Int32) (M : List am_C) (q : Nat × Nat) (c0 : am_C) (tl : List am_C) (T : TxT) (r : RdT) (o : BdT) (oo : am_O) : (BdT) → Prop
  | b => am_ev 1 k_Board_copy (63, [.ref 114, .ref 104, am_ju], [], (zl sn sx, xa c0 T o r b tl, M, q)) oo
theorem sb_Board_copy_BD_2 {fu : Nat} {sn : Nat} {sx : Nat → Int32} {M : List am_C} {q : Nat × Nat} {c0 : am_C} {tl : List am_C} {T : TxT} {r : RdT} {o : BdT} {oo : am_O} {e : (BdT)} {gg : Int32 → BdT → Option ((BdT))} (hx : x_Board_copy_BD_2 sn sx M q c0 tl T r o oo e) (hg : ∀ (x2 : Int32) (b : BdT), gg x2 b = some e → am_ev 1 k_Board_copy (2, [.ref 114, .ref 104, .int x2], [], (zl sn sx, xa c0 T o r b tl, M, q)) oo) {x2 : Int32} {b : BdT} (hM : b_Board_copy_2 fu o gg x2 b = some e) : am_ev 1 k_Board_copy (2, [.ref 114, .ref 104, .int x2], [], (zl sn sx, xa c0 T o r b tl, M, q)) oo := by
  unfold b_Board_copy_2 at hM
  rcases am_if hM with ⟨c1, hM⟩ | ⟨c1, hM⟩
  · refine am_ev.kt 3 26 8 [.ref 114, .ref 104, .int x2] [] (zl sn sx, xa c0 T o r b tl, M, q) c1 (fun _ _ => rfl) ?_
    refine am_ev.wk (lv' := [.ref 114, .ref 104, am_ju]) (am_lc (Or.inr rfl) (am_lc (Or.inr rfl) (am_lc (Or.inl rfl) am_ln))) ?_
    cases hM
    exact hx
  · refine am_ev.ke 3 26 8 [.ref 114, .ref 104, .int x2] [] (zl sn sx, xa c0 T o r b tl, M, q) c1 (fun _ _ => rfl) ?_
    obtain ⟨c2, hM⟩ := am_ifn hM
    refine am_ev.kc 7 19 [.ref 114, .ref 104, .int x2] [.int ((bd_men o) (x2).toNatClampNeg), .int x2, .ref 115] (zl sn sx, xa c0 T o r b tl, M, q) c2 (fun _ _ => rfl) ?_
    obtain ⟨c3, hM⟩ := am_ifn hM
    refine am_ev.kc 1 20 [.ref 114, .ref 104, .int x2] [] (zl sn sx, xa c0 T o r ((upd (bd_men b) (x2).toNatClampNeg ((bd_men o) (x2).toNatClampNeg)), (bd_held b), (bd_kings b), (bd_side b), (bd_rights b), (bd_passed b), (bd_depth b), (bd_made b), (bd_taken b), (bd_takenAt b), (bd_rightsBefore b), (bd_passedBefore b)) tl, M, q) c3 (fun _ _ => rfl) ?_
    refine am_ev.kg 2 (pc' := 2) (lv' := [.ref 114, .ref 104, .int (x2 + (1 : Int32))]) (st' := []) (h' := (zl sn sx, xa c0 T o r ((upd (bd_men b) (x2).toNatClampNeg ((bd_men o) (x2).toNatClampNeg)), (bd_held b), (bd_kings b), (bd_side b), (bd_rights b), (bd_passed b), (bd_depth b), (bd_made b), (bd_taken b), (bd_takenAt b), (bd_rightsBefore b), (bd_passedBefore b)) tl, M, q)) (fun _ _ => rfl) ?_
    exact hg _ _ hM
theorem sl_Board_copy_BD_2 {fu : Nat} {sn : Nat} {sx : Nat → Int32} {M : List am_C} {q : Nat × Nat} {c0 : am_C} {tl : List am_C} {T : TxT} {r : RdT} {o : BdT} {oo : am_O} {e : (BdT)} (hx : x_Board_copy_BD_2 sn sx M q c0 tl T r o oo e) : ∀ (n : Nat) (x2 : Int32) (b : BdT), l_Board_copy_2 fu o n x2 b = some e → am_ev 1 k_Board_copy (2, [.ref 114, .ref 104, .int x2], [], (zl sn sx, xa c0 T o r b tl, M, q)) oo
  | 0, _, _, hM => by have h : (none : Option ((BdT))) = some e := hM; cases h
  | n + 1, _, _, hM => sb_Board_copy_BD_2 hx (fun _ _ hM => sl_Board_copy_BD_2 hx n _ _ hM) hM
theorem sb_Board_copy_BD_28 {fu : Nat} {sn : Nat} {sx : Nat → Int32} {M : List am_C} {q : Nat × Nat} {c0 : am_C} {tl : List am_C} {T : TxT} {r : RdT} {o : BdT} {oo : am_O} {e : (BdT)} {gg : Int32 → BdT → Option ((BdT))} (hx : x_Board_copy_BD_28 sn sx M q c0 tl T r o oo e) (hg : ∀ (x2 : Int32) (b : BdT), gg x2 b = some e → am_ev 1 k_Board_copy (28, [.ref 114, .ref 104, .int x2], [], (zl sn sx, xa c0 T o r b tl, M, q)) oo) {x2 : Int32} {b : BdT} (hM : b_Board_copy_28 fu o gg x2 b = some e) : am_ev 1 k_Board_copy (28, [.ref 114, .ref 104, .int x2], [], (zl sn sx, xa c0 T o r b tl, M, q)) oo := by
  unfold b_Board_copy_28 at hM
  rcases am_if hM with ⟨c4, hM⟩ | ⟨c4, hM⟩
  · refine am_ev.kt 3 63 33 [.ref 114, .ref 104, .int x2] [] (zl sn sx, xa c0 T o r b tl, M, q) c4 (fun _ _ => rfl) ?_
    refine am_ev.wk (lv' := [.ref 114, .ref 104, am_ju]) (am_lc (Or.inr rfl) (am_lc (Or.inr rfl) (am_lc (Or.inl rfl) am_ln))) ?_
    cases hM
    exact hx
  · refine am_ev.ke 3 63 33 [.ref 114, .ref 104, .int x2] [] (zl sn sx, xa c0 T o r b tl, M, q) c4 (fun _ _ => rfl) ?_
    obtain ⟨c5, hM⟩ := am_ifn hM
    refine am_ev.kc 7 44 [.ref 114, .ref 104, .int x2] [.long ((bd_held o) (x2).toNatClampNeg), .int x2, .ref 116] (zl sn sx, xa c0 T o r b tl, M, q) c5 (fun _ _ => rfl) ?_
    obtain ⟨c6, hM⟩ := am_ifn hM
    refine am_ev.kc 1 45 [.ref 114, .ref 104, .int x2] [] (zl sn sx, xa c0 T o r ((bd_men b), (vp_updL (bd_held b) (x2).toNatClampNeg ((bd_held o) (x2).toNatClampNeg)), (bd_kings b), (bd_side b), (bd_rights b), (bd_passed b), (bd_depth b), (bd_made b), (bd_taken b), (bd_takenAt b), (bd_rightsBefore b), (bd_passedBefore b)) tl, M, q) c6 (fun _ _ => rfl) ?_
    obtain ⟨c7, hM⟩ := am_ifn hM
    refine am_ev.kc 7 56 [.ref 114, .ref 104, .int x2] [.int ((bd_kings o) (x2).toNatClampNeg), .int x2, .ref 117] (zl sn sx, xa c0 T o r ((bd_men b), (vp_updL (bd_held b) (x2).toNatClampNeg ((bd_held o) (x2).toNatClampNeg)), (bd_kings b), (bd_side b), (bd_rights b), (bd_passed b), (bd_depth b), (bd_made b), (bd_taken b), (bd_takenAt b), (bd_rightsBefore b), (bd_passedBefore b)) tl, M, q) c7 (fun _ _ => rfl) ?_
    obtain ⟨c8, hM⟩ := am_ifn hM
    refine am_ev.kc 1 57 [.ref 114, .ref 104, .int x2] [] (zl sn sx, xa c0 T o r ((bd_men b), (vp_updL (bd_held b) (x2).toNatClampNeg ((bd_held o) (x2).toNatClampNeg)), (upd (bd_kings b) (x2).toNatClampNeg ((bd_kings o) (x2).toNatClampNeg)), (bd_side b), (bd_rights b), (bd_passed b), (bd_depth b), (bd_made b), (bd_taken b), (bd_takenAt b), (bd_rightsBefore b), (bd_passedBefore b)) tl, M, q) c8 (fun _ _ => rfl) ?_
    refine am_ev.kg 2 (pc' := 28) (lv' := [.ref 114, .ref 104, .int (x2 + (1 : Int32))]) (st' := []) (h' := (zl sn sx, xa c0 T o r ((bd_men b), (vp_updL (bd_held b) (x2).toNatClampNeg ((bd_held o) (x2).toNatClampNeg)), (upd (bd_kings b) (x2).toNatClampNeg ((bd_kings o) (x2).toNatClampNeg)), (bd_side b), (bd_rights b), (bd_passed b), (bd_depth b), (bd_made b), (bd_taken b), (bd_takenAt b), (bd_rightsBefore b), (bd_passedBefore b)) tl, M, q)) (fun _ _ => rfl) ?_
    exact hg _ _ hM
theorem sl_Board_copy_BD_28 {fu : Nat} {sn : Nat} {sx : Nat → Int32} {M : List am_C} {q : Nat × Nat} {c0 : am_C} {tl : List am_C} {T : TxT} {r : RdT} {o : BdT} {oo : am_O} {e : (BdT)} (hx : x_Board_copy_BD_28 sn sx M q c0 tl T r o oo e) : ∀ (n : Nat) (x2 : Int32) (b : BdT), l_Board_copy_28 fu o n x2 b = some e → am_ev 1 k_Board_copy (28, [.ref 114, .ref 104, .int x2], [], (zl sn sx, xa c0 T o r b tl, M, q)) oo
  | 0, _, _, hM => by have h : (none : Option ((BdT))) = some e := hM; cases h
  | n + 1, _, _, hM => sb_Board_copy_BD_28 hx (fun _ _ hM => sl_Board_copy_BD_28 hx n _ _ hM) hM
theorem sj_Board_copy_BD_63 {fu : Nat} {sn : Nat} {sx : Nat → Int32} {M : List am_C} {q : Nat × Nat} {c0 : am_C} {tl : List am_C} {T : TxT} {r : RdT} {b : BdT} {o : BdT} {oo : am_O} {e : BdT} (hx : y_Board_copy_BD sn sx M q c0 tl T r o oo e) (hM : j_Board_copy_63 fu b o = some e) : am_ev 1 k_Board_copy (63, [.ref 114, .ref 104, am_ju], [], (zl sn sx, xa c0 T o r b tl, M, q)) oo := by
  unfold j_Board_copy_63 at hM
  cases hM
  cases hx
  exact am_ev.kf 16 (fun _ _ => rfl)
theorem sj_Board_copy_BD_26 {fu : Nat} {sn : Nat} {sx : Nat → Int32} {M : List am_C} {q : Nat × Nat} {c0 : am_C} {tl : List am_C} {T : TxT} {r : RdT} {b : BdT} {o : BdT} {oo : am_O} {e : BdT} (hx : y_Board_copy_BD sn sx M q c0 tl T r o oo e) (hM : j_Board_copy_26 fu b o = some e) : am_ev 1 k_Board_copy (26, [.ref 114, .ref 104, am_ju], [], (zl sn sx, xa c0 T o r b tl, M, q)) oo := by
  unfold j_Board_copy_26 at hM
  refine am_ev.kg 2 (pc' := 28) (lv' := [.ref 114, .ref 104, .int (0 : Int32)]) (st' := []) (h' := (zl sn sx, xa c0 T o r b tl, M, q)) (fun _ _ => rfl) ?_
  obtain ⟨z, hz, hM⟩ := am_bind hM
  obtain ⟨bz_1, rfl⟩ : ∃ y, y = z := ⟨_, rfl⟩
  refine sl_Board_copy_BD_28 ?_ _ _ _ hz
  show am_ev 1 k_Board_copy (63, [.ref 114, .ref 104, am_ju], [], (zl sn sx, xa c0 T o r bz_1 tl, M, q)) oo
  exact sj_Board_copy_BD_63 hx hM
theorem se_Board_copy_BD {fu : Nat} {sn : Nat} {sx : Nat → Int32} {M : List am_C} {q : Nat × Nat} {c0 : am_C} {tl : List am_C} {T : TxT} {r : RdT} {b : BdT} {o : BdT} {oo : am_O} {e : BdT} (hx : y_Board_copy_BD sn sx M q c0 tl T r o oo e) (hM : f_Board_copy fu b o = some e) : am_ev 1 k_Board_copy (0, [.ref 114, .ref 104, am_ju], [], (zl sn sx, xa c0 T o r b tl, M, q)) oo := by
  unfold f_Board_copy at hM
  refine am_ev.kg 2 (pc' := 2) (lv' := [.ref 114, .ref 104, .int (0 : Int32)]) (st' := []) (h' := (zl sn sx, xa c0 T o r b tl, M, q)) (fun _ _ => rfl) ?_
  obtain ⟨z, hz, hM⟩ := am_bind hM
  obtain ⟨bz_2, rfl⟩ : ∃ y, y = z := ⟨_, rfl⟩
  refine sl_Board_copy_BD_2 ?_ _ _ _ hz
  show am_ev 1 k_Board_copy (26, [.ref 114, .ref 104, am_ju], [], (zl sn sx, xa c0 T o r bz_2 tl, M, q)) oo
  exact sj_Board_copy_BD_26 hx hM
theorem s_Board_copy_BD {fu : Nat} {sn : Nat} {sx : Nat → Int32} {M : List am_C} {q : Nat × Nat} {c0 : am_C} {tl : List am_C} {T : TxT} {r : RdT} {b : BdT} {o : BdT} {ob : BdT} (hM : f_Board_copy fu b o = some ob) : am_cv 2 k_Board_copy [.ref 114, .ref 104] (zl sn sx, xa c0 T o r b tl, M, q) (.inl none, (zl sn sx, xa c0 T o r ob tl, M, q)) := am_cv.of rfl (se_Board_copy_BD (e := ob) (show y_Board_copy_BD sn sx M q c0 tl T r o _ ob from rfl) hM)
def y_Board_lift_B (sn : Nat) (sx : Nat → Int32) (M : List am_C) (q : Nat × Nat) (c0 : am_C) (tl : List am_C) (T : TxT) (D : BdT) (r : RdT) (oo : am_O) : BdT → Prop
  | ob => oo = (.inl none, (zl sn sx, xa c0 T D r ob tl, M, q))
theorem se_Board_lift_B {sn : Nat} {sx : Nat → Int32} {M : List am_C} {q : Nat × Nat} {c0 : am_C} {tl : List am_C} {T : TxT} {D : BdT} {r : RdT} {b : BdT} {x1 : Int32} {oo : am_O} {e : BdT} (hx : y_Board_lift_B sn sx M q c0 tl T D r oo e) (hM : f_Board_lift x1 b = some e) : am_ev 1 k_Board_lift (0, [.ref 114, .int x1], [], (zl sn sx, xa c0 T D r b tl, M, q)) oo := by
  unfold f_Board_lift at hM
  obtain ⟨c1, hM⟩ := am_ifn hM
  refine am_ev.kc 6 10 [.ref 114, .int x1] [.int ((bd_men b) (x1).toNatClampNeg), .ref 116] (zl sn sx, xa c0 T D r b tl, M, q) c1 (fun _ _ => rfl) ?_
  obtain ⟨c2, hM⟩ := am_ifn hM
  refine am_ev.kc 4 14 [.ref 114, .int x1] [.long ((bd_held b) ((((bd_men b) (x1).toNatClampNeg) >>> ((3 : Int32) &&& 31))).toNatClampNeg), .int (((bd_men b) (x1).toNatClampNeg) >>> ((3 : Int32) &&& 31)), .ref 116] (zl sn sx, xa c0 T D r b tl, M, q) c2 (fun _ _ => rfl) ?_
  obtain ⟨c3, hM⟩ := am_ifn hM
  refine am_ev.kc 7 23 [.ref 114, .int x1] [] (zl sn sx, xa c0 T D r ((bd_men b), (vp_updL (bd_held b) ((((bd_men b) (x1).toNatClampNeg) >>> ((3 : Int32) &&& 31))).toNatClampNeg (((bd_held b) ((((bd_men b) (x1).toNatClampNeg) >>> ((3 : Int32) &&& 31))).toNatClampNeg) &&& ((am_shl (1 : Int64) x1) ^^^ (-1 : Int64)))), (bd_kings b), (bd_side b), (bd_rights b), (bd_passed b), (bd_depth b), (bd_made b), (bd_taken b), (bd_takenAt b), (bd_rightsBefore b), (bd_passedBefore b)) tl, M, q) c3 (fun _ _ => rfl) ?_
  obtain ⟨c4, hM⟩ := am_ifn hM
  refine am_ev.kc 5 30 [.ref 114, .int x1] [] (zl sn sx, xa c0 T D r ((upd (bd_men b) (x1).toNatClampNeg (0 : Int32)), (vp_updL (bd_held b) ((((bd_men b) (x1).toNatClampNeg) >>> ((3 : Int32) &&& 31))).toNatClampNeg (((bd_held b) ((((bd_men b) (x1).toNatClampNeg) >>> ((3 : Int32) &&& 31))).toNatClampNeg) &&& ((am_shl (1 : Int64) x1) ^^^ (-1 : Int64)))), (bd_kings b), (bd_side b), (bd_rights b), (bd_passed b), (bd_depth b), (bd_made b), (bd_taken b), (bd_takenAt b), (bd_rightsBefore b), (bd_passedBefore b)) tl, M, q) c4 (fun _ _ => rfl) ?_
  cases hM
  cases hx
  exact am_ev.kf 1 (fun _ _ => rfl)
theorem s_Board_lift_B {sn : Nat} {sx : Nat → Int32} {M : List am_C} {q : Nat × Nat} {c0 : am_C} {tl : List am_C} {T : TxT} {D : BdT} {r : RdT} {b : BdT} {x1 : Int32} {ob : BdT} (hM : f_Board_lift x1 b = some ob) : am_cv 2 k_Board_lift [.ref 114, .int x1] (zl sn sx, xa c0 T D r b tl, M, q) (.inl none, (zl sn sx, xa c0 T D r ob tl, M, q)) := am_cv.of rfl (se_Board_lift_B (e := ob) (show y_Board_lift_B sn sx M q c0 tl T D r _ ob from rfl) hM)
def y_Board_put_B (sn : Nat) (sx : Nat → Int32) (M : List am_C) (q : Nat × Nat) (c0 : am_C) (tl : List am_C) (T : TxT) (D : BdT) (r : RdT) (oo : am_O) : BdT → Prop
  | ob => oo = (.inl none, (zl sn sx, xa c0 T D r ob tl, M, q))
theorem se_Board_put_B {sn : Nat} {sx : Nat → Int32} {M : List am_C} {q : Nat × Nat} {c0 : am_C} {tl : List am_C} {T : TxT} {D : BdT} {r : RdT} {b : BdT} {x1 : Int32} {x2 : Int32} {oo : am_O} {e : BdT} (hx : y_Board_put_B sn sx M q c0 tl T D r oo e) (hM : f_Board_put x1 x2 b = some e) : am_ev 1 k_Board_put (0, [.ref 114, .int x1, .int x2], [], (zl sn sx, xa c0 T D r b tl, M, q)) oo := by
  unfold f_Board_put at hM
  obtain ⟨c1, hM⟩ := am_ifn hM
  refine am_ev.kc 5 7 [.ref 114, .int x1, .int x2] [] (zl sn sx, xa c0 T D r ((upd (bd_men b) (x1).toNatClampNeg x2), (bd_held b), (bd_kings b), (bd_side b), (bd_rights b), (bd_passed b), (bd_depth b), (bd_made b), (bd_taken b), (bd_takenAt b), (bd_rightsBefore b), (bd_passedBefore b)) tl, M, q) c1 (fun _ _ => rfl) ?_
  obtain ⟨c2, hM⟩ := am_ifn hM
  refine am_ev.kc 7 16 [.ref 114, .int x1, .int x2] [.long ((bd_held b) ((x2 >>> ((3 : Int32) &&& 31))).toNatClampNeg), .int (x2 >>> ((3 : Int32) &&& 31)), .ref 116] (zl sn sx, xa c0 T D r ((upd (bd_men b) (x1).toNatClampNeg x2), (bd_held b), (bd_kings b), (bd_side b), (bd_rights b), (bd_passed b), (bd_depth b), (bd_made b), (bd_taken b), (bd_takenAt b), (bd_rightsBefore b), (bd_passedBefore b)) tl, M, q) c2 (fun _ _ => rfl) ?_
  obtain ⟨c3, hM⟩ := am_ifn hM
  refine am_ev.kc 5 21 [.ref 114, .int x1, .int x2] [] (zl sn sx, xa c0 T D r ((upd (bd_men b) (x1).toNatClampNeg x2), (vp_updL (bd_held b) ((x2 >>> ((3 : Int32) &&& 31))).toNatClampNeg (((bd_held b) ((x2 >>> ((3 : Int32) &&& 31))).toNatClampNeg) ||| (am_shl (1 : Int64) x1))), (bd_kings b), (bd_side b), (bd_rights b), (bd_passed b), (bd_depth b), (bd_made b), (bd_taken b), (bd_takenAt b), (bd_rightsBefore b), (bd_passedBefore b)) tl, M, q) c3 (fun _ _ => rfl) ?_
  cases hM
  cases hx
  exact am_ev.kf 1 (fun _ _ => rfl)
theorem s_Board_put_B {sn : Nat} {sx : Nat → Int32} {M : List am_C} {q : Nat × Nat} {c0 : am_C} {tl : List am_C} {T : TxT} {D : BdT} {r : RdT} {b : BdT} {x1 : Int32} {x2 : Int32} {ob : BdT} (hM : f_Board_put x1 x2 b = some ob) : am_cv 2 k_Board_put [.ref 114, .int x1, .int x2] (zl sn sx, xa c0 T D r b tl, M, q) (.inl none, (zl sn sx, xa c0 T D r ob tl, M, q)) := am_cv.of rfl (se_Board_put_B (e := ob) (show y_Board_put_B sn sx M q c0 tl T D r _ ob from rfl) hM)
def y_Board_castleRook_B (sn : Nat) (sx : Nat → Int32) (M : List am_C) (q : Nat × Nat) (c0 : am_C) (tl : List am_C) (T : TxT) (D : BdT) (r : RdT) (oo : am_O) : BdT → Prop
  | ob => oo = (.inl none, (zl sn sx, xa c0 T D r ob tl, M, q))
theorem sj_Board_castleRook_B_68 {sn : Nat} {sx : Nat → Int32} {M : List am_C} {q : Nat × Nat} {c0 : am_C} {tl : List am_C} {T : TxT} {D : BdT} {r : RdT} {b : BdT} {x3 : Int32} {x4 : Int32} {x5 : Int32} {x6 : Int32} {s1 : Int32} {oo : am_O} {e : BdT} (hx : y_Board_castleRook_B sn sx M q c0 tl T D r oo e) (hM : j_Board_castleRook_68 b x3 x4 x5 x6 s1 = some e) : am_ev 2 k_Board_castleRook (68, [.ref 114, am_ju, am_ju, .int x3, .int x4, .int x5, .int x6], [.int s1, .ref 114], (zl sn sx, xa c0 T D r b tl, M, q)) oo := by
  unfold j_Board_castleRook_68 at hM
  obtain ⟨rr, hc, hM⟩ := am_bind hM
  obtain ⟨bg1, rfl⟩ : ∃ z, z = rr := ⟨_, rfl⟩
  refine am_ev.call rfl rfl rfl ((s_Board_lift_B hc).mono (by decide)) ?_
  show am_ev _ k_Board_castleRook (71, [.ref 114, am_ju, am_ju, .int x3, .int x4, .int x5, .int x6], [], (zl sn sx, xa c0 T D r bg1 tl, M, q)) oo
  rcases am_if hM with ⟨c1, hM⟩ | ⟨c1, hM⟩
  · refine am_ev.kt 3 81 76 [.ref 114, am_ju, am_ju, .int x3, .int x4, .int x5, .int x6] [.ref 114] (zl sn sx, xa c0 T D r bg1 tl, M, q) c1 (fun _ _ => rfl) ?_
    obtain ⟨rr, hc, hM⟩ := am_bind hM
    obtain ⟨bg2, rfl⟩ : ∃ z, z = rr := ⟨_, rfl⟩
    refine am_ev.kg 2 (pc' := 85) (lv' := [.ref 114, am_ju, am_ju, .int x3, .int x4, .int x5, .int x6]) (st' := [.int x6, .int x4, .ref 114]) (h' := (zl sn sx, xa c0 T D r bg1 tl, M, q)) (fun _ _ => rfl) ?_
    refine am_ev.call rfl rfl rfl ((s_Board_put_B hc).mono (by decide)) ?_
    show am_ev _ k_Board_castleRook (88, [.ref 114, am_ju, am_ju, .int x3, .int x4, .int x5, .int x6], [], (zl sn sx, xa c0 T D r bg2 tl, M, q)) oo
    cases hM
    cases hx
    exact am_ev.kf 1 (fun _ _ => rfl)
  · refine am_ev.ke 3 81 76 [.ref 114, am_ju, am_ju, .int x3, .int x4, .int x5, .int x6] [.ref 114] (zl sn sx, xa c0 T D r bg1 tl, M, q) c1 (fun _ _ => rfl) ?_
    obtain ⟨rr, hc, hM⟩ := am_bind hM
    obtain ⟨bg3, rfl⟩ : ∃ z, z = rr := ⟨_, rfl⟩
    refine am_ev.kg 3 (pc' := 85) (lv' := [.ref 114, am_ju, am_ju, .int x3, .int x4, .int x5, .int x6]) (st' := [.int x6, .int x5, .ref 114]) (h' := (zl sn sx, xa c0 T D r bg1 tl, M, q)) (fun _ _ => rfl) ?_
    refine am_ev.call rfl rfl rfl ((s_Board_put_B hc).mono (by decide)) ?_
    show am_ev _ k_Board_castleRook (88, [.ref 114, am_ju, am_ju, .int x3, .int x4, .int x5, .int x6], [], (zl sn sx, xa c0 T D r bg3 tl, M, q)) oo
    cases hM
    cases hx
    exact am_ev.kf 1 (fun _ _ => rfl)
theorem sj_Board_castleRook_B_54 {sn : Nat} {sx : Nat → Int32} {M : List am_C} {q : Nat × Nat} {c0 : am_C} {tl : List am_C} {T : TxT} {D : BdT} {r : RdT} {b : BdT} {x3 : Int32} {x4 : Int32} {x5 : Int32} {s0 : Int32} {oo : am_O} {e : BdT} (hx : y_Board_castleRook_B sn sx M q c0 tl T D r oo e) (hM : j_Board_castleRook_54 b x3 x4 x5 s0 = some e) : am_ev 2 k_Board_castleRook (54, [.ref 114, am_ju, am_ju, .int x3, .int x4, .int x5, am_ju], [.int s0], (zl sn sx, xa c0 T D r b tl, M, q)) oo := by
  unfold j_Board_castleRook_54 at hM
  rcases am_if hM with ⟨c2, hM⟩ | ⟨c2, hM⟩
  · refine am_ev.kt 4 66 61 [.ref 114, am_ju, am_ju, .int x3, .int x4, .int x5, .int s0] [.ref 114] (zl sn sx, xa c0 T D r b tl, M, q) c2 (fun _ _ => rfl) ?_
    refine am_ev.kg 1 (pc' := 68) (lv' := [.ref 114, am_ju, am_ju, .int x3, .int x4, .int x5, .int s0]) (st' := [.int x5, .ref 114]) (h' := (zl sn sx, xa c0 T D r b tl, M, q)) (fun _ _ => rfl) ?_
    exact sj_Board_castleRook_B_68 hx hM
  · refine am_ev.ke 4 66 61 [.ref 114, am_ju, am_ju, .int x3, .int x4, .int x5, .int s0] [.ref 114] (zl sn sx, xa c0 T D r b tl, M, q) c2 (fun _ _ => rfl) ?_
    refine am_ev.kg 2 (pc' := 68) (lv' := [.ref 114, am_ju, am_ju, .int x3, .int x4, .int x5, .int s0]) (st' := [.int x4, .ref 114]) (h' := (zl sn sx, xa c0 T D r b tl, M, q)) (fun _ _ => rfl) ?_
    exact sj_Board_castleRook_B_68 hx hM
theorem sj_Board_castleRook_B_23 {sn : Nat} {sx : Nat → Int32} {M : List am_C} {q : Nat × Nat} {c0 : am_C} {tl : List am_C} {T : TxT} {D : BdT} {r : RdT} {b : BdT} {x1 : Int32} {x2 : Int32} {x3 : Int32} {s0 : Int32} {s1 : Int32} {oo : am_O} {e : BdT} (hx : y_Board_castleRook_B sn sx M q c0 tl T D r oo e) (hM : j_Board_castleRook_23 b x1 x2 x3 s0 s1 = some e) : am_ev 2 k_Board_castleRook (23, [.ref 114, .int x1, .int x2, .int x3, am_ju, am_ju, am_ju], [.int s1, .int s0], (zl sn sx, xa c0 T D r b tl, M, q)) oo := by
  unfold j_Board_castleRook_23 at hM
  rcases am_if hM with ⟨c3, hM⟩ | ⟨c3, hM⟩
  · refine am_ev.kt 10 47 37 [.ref 114, .int x1, .int x2, .int x3, .int (s0 + s1), .int ((x1 + x2) >>> ((1 : Int32) &&& 31)), am_ju] [] (zl sn sx, xa c0 T D r b tl, M, q) c3 (fun _ _ => rfl) ?_
    obtain ⟨c4, hM⟩ := am_ifn hM
    refine am_ev.kc 4 54 [.ref 114, .int x1, .int x2, .int x3, .int (s0 + s1), .int ((x1 + x2) >>> ((1 : Int32) &&& 31)), am_ju] [.int ((bd_men b) (((x1 + x2) >>> ((1 : Int32) &&& 31))).toNatClampNeg)] (zl sn sx, xa c0 T D r b tl, M, q) c4 (fun _ _ => rfl) ?_
    refine am_ev.wk (lv' := [.ref 114, am_ju, am_ju, .int x3, .int (s0 + s1), .int ((x1 + x2) >>> ((1 : Int32) &&& 31)), am_ju]) (am_lc (Or.inr rfl) (am_lc (Or.inl rfl) (am_lc (Or.inl rfl) (am_lc (Or.inr rfl) (am_lc (Or.inr rfl) (am_lc (Or.inr rfl) (am_lc (Or.inr rfl) am_ln))))))) ?_
    exact sj_Board_castleRook_B_54 hx hM
  · refine am_ev.ke 10 47 37 [.ref 114, .int x1, .int x2, .int x3, .int (s0 + s1), .int ((x1 + x2) >>> ((1 : Int32) &&& 31)), am_ju] [] (zl sn sx, xa c0 T D r b tl, M, q) c3 (fun _ _ => rfl) ?_
    obtain ⟨c5, hM⟩ := am_ifn hM
    refine am_ev.kc 4 44 [.ref 114, .int x1, .int x2, .int x3, .int (s0 + s1), .int ((x1 + x2) >>> ((1 : Int32) &&& 31)), am_ju] [.int ((bd_men b) ((s0 + s1)).toNatClampNeg)] (zl sn sx, xa c0 T D r b tl, M, q) c5 (fun _ _ => rfl) ?_
    refine am_ev.kg 1 (pc' := 54) (lv' := [.ref 114, .int x1, .int x2, .int x3, .int (s0 + s1), .int ((x1 + x2) >>> ((1 : Int32) &&& 31)), am_ju]) (st' := [.int ((bd_men b) ((s0 + s1)).toNatClampNeg)]) (h' := (zl sn sx, xa c0 T D r b tl, M, q)) (fun _ _ => rfl) ?_
    refine am_ev.wk (lv' := [.ref 114, am_ju, am_ju, .int x3, .int (s0 + s1), .int ((x1 + x2) >>> ((1 : Int32) &&& 31)), am_ju]) (am_lc (Or.inr rfl) (am_lc (Or.inl rfl) (am_lc (Or.inl rfl) (am_lc (Or.inr rfl) (am_lc (Or.inr rfl) (am_lc (Or.inr rfl) (am_lc (Or.inr rfl) am_ln))))))) ?_
    exact sj_Board_castleRook_B_54 hx hM
theorem se_Board_castleRook_B {sn : Nat} {sx : Nat → Int32} {M : List am_C} {q : Nat × Nat} {c0 : am_C} {tl : List am_C} {T : TxT} {D : BdT} {r : RdT} {b : BdT} {x1 : Int32} {x2 : Int32} {x3 : Int32} {oo : am_O} {e : BdT} (hx : y_Board_castleRook_B sn sx M q c0 tl T D r oo e) (hM : f_Board_castleRook x1 x2 x3 b = some e) : am_ev 2 k_Board_castleRook (0, [.ref 114, .int x1, .int x2, .int x3, am_ju, am_ju, am_ju], [], (zl sn sx, xa c0 T D r b tl, M, q)) oo := by
  unfold f_Board_castleRook at hM
  rcases am_if hM with ⟨c6, hM⟩ | ⟨c6, hM⟩
  · refine am_ev.kt 6 11 10 [.ref 114, .int x1, .int x2, .int x3, am_ju, am_ju, am_ju] [] (zl sn sx, xa c0 T D r b tl, M, q) c6 (fun _ _ => rfl) ?_
    rcases am_if hM with ⟨c7, hM⟩ | ⟨c7, hM⟩
    · refine am_ev.kt 4 21 17 [.ref 114, .int x1, .int x2, .int x3, am_ju, am_ju, am_ju] [.int x1] (zl sn sx, xa c0 T D r b tl, M, q) c7 (fun _ _ => rfl) ?_
      refine am_ev.kg 1 (pc' := 23) (lv' := [.ref 114, .int x1, .int x2, .int x3, am_ju, am_ju, am_ju]) (st' := [.int (-4 : Int32), .int x1]) (h' := (zl sn sx, xa c0 T D r b tl, M, q)) (fun _ _ => rfl) ?_
      exact sj_Board_castleRook_B_23 hx hM
    · refine am_ev.ke 4 21 17 [.ref 114, .int x1, .int x2, .int x3, am_ju, am_ju, am_ju] [.int x1] (zl sn sx, xa c0 T D r b tl, M, q) c7 (fun _ _ => rfl) ?_
      refine am_ev.kg 2 (pc' := 23) (lv' := [.ref 114, .int x1, .int x2, .int x3, am_ju, am_ju, am_ju]) (st' := [.int (3 : Int32), .int x1]) (h' := (zl sn sx, xa c0 T D r b tl, M, q)) (fun _ _ => rfl) ?_
      exact sj_Board_castleRook_B_23 hx hM
  · refine am_ev.ke 6 11 10 [.ref 114, .int x1, .int x2, .int x3, am_ju, am_ju, am_ju] [] (zl sn sx, xa c0 T D r b tl, M, q) c6 (fun _ _ => rfl) ?_
    cases hM
    cases hx
    exact am_ev.kf 1 (fun _ _ => rfl)
theorem s_Board_castleRook_B {sn : Nat} {sx : Nat → Int32} {M : List am_C} {q : Nat × Nat} {c0 : am_C} {tl : List am_C} {T : TxT} {D : BdT} {r : RdT} {b : BdT} {x1 : Int32} {x2 : Int32} {x3 : Int32} {ob : BdT} (hM : f_Board_castleRook x1 x2 x3 b = some ob) : am_cv 3 k_Board_castleRook [.ref 114, .int x1, .int x2, .int x3] (zl sn sx, xa c0 T D r b tl, M, q) (.inl none, (zl sn sx, xa c0 T D r ob tl, M, q)) := am_cv.of rfl (se_Board_castleRook_B (e := ob) (show y_Board_castleRook_B sn sx M q c0 tl T D r _ ob from rfl) hM)
def y_Board_unmake_B (sn : Nat) (sx : Nat → Int32) (M : List am_C) (q : Nat × Nat) (c0 : am_C) (tl : List am_C) (T : TxT) (D : BdT) (r : RdT) (oo : am_O) : BdT → Prop
  | ob => oo = (.inl none, (zl sn sx, xa c0 T D r ob tl, M, q))
theorem sj_Board_unmake_B_151 {sn : Nat} {sx : Nat → Int32} {M : List am_C} {q : Nat × Nat} {c0 : am_C} {tl : List am_C} {T : TxT} {D : BdT} {r : RdT} {b : BdT} {oo : am_O} {e : BdT} (hx : y_Board_unmake_B sn sx M q c0 tl T D r oo e) (hM : j_Board_unmake_151 b = some e) : am_ev 3 k_Board_unmake (151, [.ref 114, am_ju, am_ju, am_ju, am_ju], [], (zl sn sx, xa c0 T D r b tl, M, q)) oo := by
  unfold j_Board_unmake_151 at hM
  obtain ⟨c1, hM⟩ := am_ifn hM
  refine am_ev.kc 6 161 [.ref 114, am_ju, am_ju, am_ju, am_ju] [.int ((bd_rightsBefore b) ((bd_depth b)).toNatClampNeg), .ref 114] (zl sn sx, xa c0 T D r b tl, M, q) c1 (fun _ _ => rfl) ?_
  obtain ⟨c2, hM⟩ := am_ifn hM
  refine am_ev.kc 7 174 [.ref 114, am_ju, am_ju, am_ju, am_ju] [.int ((bd_passedBefore b) ((bd_depth b)).toNatClampNeg), .ref 114] (zl sn sx, xa c0 T D r ((bd_men b), (bd_held b), (bd_kings b), (bd_side b), ((bd_rightsBefore b) ((bd_depth b)).toNatClampNeg), (bd_passed b), (bd_depth b), (bd_made b), (bd_taken b), (bd_takenAt b), (bd_rightsBefore b), (bd_passedBefore b)) tl, M, q) c2 (fun _ _ => rfl) ?_
  cases hM
  cases hx
  exact am_ev.kf 2 (fun _ _ => rfl)
theorem sj_Board_unmake_B_124 {sn : Nat} {sx : Nat → Int32} {M : List am_C} {q : Nat × Nat} {c0 : am_C} {tl : List am_C} {T : TxT} {D : BdT} {r : RdT} {b : BdT} {x2 : Int32} {x3 : Int32} {x4 : Int32} {oo : am_O} {e : BdT} (hx : y_Board_unmake_B sn sx M q c0 tl T D r oo e) (hM : j_Board_unmake_124 b x2 x3 x4 = some e) : am_ev 3 k_Board_unmake (124, [.ref 114, am_ju, .int x2, .int x3, .int x4], [], (zl sn sx, xa c0 T D r b tl, M, q)) oo := by
  unfold j_Board_unmake_124 at hM
  rcases am_if hM with ⟨c3, hM⟩ | ⟨c3, hM⟩
  · refine am_ev.kt 5 151 134 [.ref 114, am_ju, .int x2, .int x3, .int x4] [] (zl sn sx, xa c0 T D r b tl, M, q) c3 (fun _ _ => rfl) ?_
    refine am_ev.wk (lv' := [.ref 114, am_ju, am_ju, am_ju, am_ju]) (am_lc (Or.inr rfl) (am_lc (Or.inr rfl) (am_lc (Or.inl rfl) (am_lc (Or.inl rfl) (am_lc (Or.inl rfl) am_ln))))) ?_
    exact sj_Board_unmake_B_151 hx hM
  · refine am_ev.ke 5 151 134 [.ref 114, am_ju, .int x2, .int x3, .int x4] [] (zl sn sx, xa c0 T D r b tl, M, q) c3 (fun _ _ => rfl) ?_
    obtain ⟨c4, hM⟩ := am_ifn hM
    refine am_ev.kc 6 144 [.ref 114, am_ju, .int x2, .int x3, .int x4] [] (zl sn sx, xa c0 T D r ((bd_men b), (bd_held b), (upd (bd_kings b) ((bd_side b)).toNatClampNeg x2), (bd_side b), (bd_rights b), (bd_passed b), (bd_depth b), (bd_made b), (bd_taken b), (bd_takenAt b), (bd_rightsBefore b), (bd_passedBefore b)) tl, M, q) c4 (fun _ _ => rfl) ?_
    obtain ⟨rr, hc, hM⟩ := am_bind hM
    obtain ⟨bg4, rfl⟩ : ∃ z, z = rr := ⟨_, rfl⟩
    refine am_ev.kg 4 (pc' := 148) (lv' := [.ref 114, am_ju, .int x2, .int x3, .int x4]) (st' := [.int (0 : Int32), .int x3, .int x2, .ref 114]) (h' := (zl sn sx, xa c0 T D r ((bd_men b), (bd_held b), (upd (bd_kings b) ((bd_side b)).toNatClampNeg x2), (bd_side b), (bd_rights b), (bd_passed b), (bd_depth b), (bd_made b), (bd_taken b), (bd_takenAt b), (bd_rightsBefore b), (bd_passedBefore b)) tl, M, q)) (fun _ _ => rfl) ?_
    refine am_ev.call rfl rfl rfl ((s_Board_castleRook_B hc).mono (by decide)) ?_
    show am_ev _ k_Board_unmake (151, [.ref 114, am_ju, .int x2, .int x3, .int x4], [], (zl sn sx, xa c0 T D r bg4 tl, M, q)) oo
    refine am_ev.wk (lv' := [.ref 114, am_ju, am_ju, am_ju, am_ju]) (am_lc (Or.inr rfl) (am_lc (Or.inr rfl) (am_lc (Or.inl rfl) (am_lc (Or.inl rfl) (am_lc (Or.inl rfl) am_ln))))) ?_
    exact sj_Board_unmake_B_151 hx hM
theorem sj_Board_unmake_B_76 {sn : Nat} {sx : Nat → Int32} {M : List am_C} {q : Nat × Nat} {c0 : am_C} {tl : List am_C} {T : TxT} {D : BdT} {r : RdT} {b : BdT} {x2 : Int32} {x3 : Int32} {s0 : Int32} {oo : am_O} {e : BdT} (hx : y_Board_unmake_B sn sx M q c0 tl T D r oo e) (hM : j_Board_unmake_76 b x2 x3 s0 = some e) : am_ev 3 k_Board_unmake (76, [.ref 114, am_ju, .int x2, .int x3, am_ju], [.int s0], (zl sn sx, xa c0 T D r b tl, M, q)) oo := by
  unfold j_Board_unmake_76 at hM
  obtain ⟨rr, hc, hM⟩ := am_bind hM
  obtain ⟨bg1, rfl⟩ : ∃ z, z = rr := ⟨_, rfl⟩
  refine am_ev.kg 3 (pc' := 80) (lv' := [.ref 114, am_ju, .int x2, .int x3, .int s0]) (st' := [.int x3, .ref 114]) (h' := (zl sn sx, xa c0 T D r b tl, M, q)) (fun _ _ => rfl) ?_
  refine am_ev.call rfl rfl rfl ((s_Board_lift_B hc).mono (by decide)) ?_
  show am_ev _ k_Board_unmake (83, [.ref 114, am_ju, .int x2, .int x3, .int s0], [], (zl sn sx, xa c0 T D r bg1 tl, M, q)) oo
  obtain ⟨rr, hc, hM⟩ := am_bind hM
  obtain ⟨bg2, rfl⟩ : ∃ z, z = rr := ⟨_, rfl⟩
  refine am_ev.kg 3 (pc' := 87) (lv' := [.ref 114, am_ju, .int x2, .int x3, .int s0]) (st' := [.int s0, .int x2, .ref 114]) (h' := (zl sn sx, xa c0 T D r bg1 tl, M, q)) (fun _ _ => rfl) ?_
  refine am_ev.call rfl rfl rfl ((s_Board_put_B hc).mono (by decide)) ?_
  show am_ev _ k_Board_unmake (90, [.ref 114, am_ju, .int x2, .int x3, .int s0], [], (zl sn sx, xa c0 T D r bg2 tl, M, q)) oo
  obtain ⟨c5, hM⟩ := am_ifn hM
  refine am_ev.kc 5 99 [.ref 114, am_ju, .int x2, .int x3, .int s0] [.int ((bd_taken bg2) ((bd_depth bg2)).toNatClampNeg)] (zl sn sx, xa c0 T D r bg2 tl, M, q) c5 (fun _ _ => rfl) ?_
  rcases am_if hM with ⟨c6, hM⟩ | ⟨c6, hM⟩
  · refine am_ev.kt 1 124 102 [.ref 114, am_ju, .int x2, .int x3, .int s0] [] (zl sn sx, xa c0 T D r bg2 tl, M, q) c6 (fun _ _ => rfl) ?_
    exact sj_Board_unmake_B_124 hx hM
  · refine am_ev.ke 1 124 102 [.ref 114, am_ju, .int x2, .int x3, .int s0] [] (zl sn sx, xa c0 T D r bg2 tl, M, q) c6 (fun _ _ => rfl) ?_
    obtain ⟨c7, hM⟩ := am_ifn hM
    refine am_ev.kc 6 112 [.ref 114, am_ju, .int x2, .int x3, .int s0] [.int ((bd_takenAt bg2) ((bd_depth bg2)).toNatClampNeg), .ref 114] (zl sn sx, xa c0 T D r bg2 tl, M, q) c7 (fun _ _ => rfl) ?_
    obtain ⟨c8, hM⟩ := am_ifn hM
    refine am_ev.kc 5 121 [.ref 114, am_ju, .int x2, .int x3, .int s0] [.int ((bd_taken bg2) ((bd_depth bg2)).toNatClampNeg), .int ((bd_takenAt bg2) ((bd_depth bg2)).toNatClampNeg), .ref 114] (zl sn sx, xa c0 T D r bg2 tl, M, q) c8 (fun _ _ => rfl) ?_
    obtain ⟨rr, hc, hM⟩ := am_bind hM
    obtain ⟨bg3, rfl⟩ : ∃ z, z = rr := ⟨_, rfl⟩
    refine am_ev.call rfl rfl rfl ((s_Board_put_B hc).mono (by decide)) ?_
    show am_ev _ k_Board_unmake (124, [.ref 114, am_ju, .int x2, .int x3, .int s0], [], (zl sn sx, xa c0 T D r bg3 tl, M, q)) oo
    exact sj_Board_unmake_B_124 hx hM
theorem se_Board_unmake_B {sn : Nat} {sx : Nat → Int32} {M : List am_C} {q : Nat × Nat} {c0 : am_C} {tl : List am_C} {T : TxT} {D : BdT} {r : RdT} {b : BdT} {oo : am_O} {e : BdT} (hx : y_Board_unmake_B sn sx M q c0 tl T D r oo e) (hM : f_Board_unmake b = some e) : am_ev 3 k_Board_unmake (0, [.ref 114, am_ju, am_ju, am_ju, am_ju], [], (zl sn sx, xa c0 T D r b tl, M, q)) oo := by
  unfold f_Board_unmake at hM
  rcases am_if hM with ⟨c9, hM⟩ | ⟨c9, hM⟩
  · refine am_ev.kt 3 8 7 [.ref 114, am_ju, am_ju, am_ju, am_ju] [] (zl sn sx, xa c0 T D r b tl, M, q) c9 (fun _ _ => rfl) ?_
    obtain ⟨c10, hM⟩ := am_ifn hM
    refine am_ev.kc 17 37 [.ref 114, am_ju, am_ju, am_ju, am_ju] [.int ((bd_made b) (((bd_depth b) - (1 : Int32))).toNatClampNeg)] (zl sn sx, xa c0 T D r ((bd_men b), (bd_held b), (bd_kings b), ((1 : Int32) - (bd_side b)), (bd_rights b), (bd_passed b), ((bd_depth b) - (1 : Int32)), (bd_made b), (bd_taken b), (bd_takenAt b), (bd_rightsBefore b), (bd_passedBefore b)) tl, M, q) c10 (fun _ _ => rfl) ?_
    rcases am_if hM with ⟨c11, hM⟩ | ⟨c11, hM⟩
    · refine am_ev.kt 15 67 58 [.ref 114, .int ((bd_made b) (((bd_depth b) - (1 : Int32))).toNatClampNeg), .int (((bd_made b) (((bd_depth b) - (1 : Int32))).toNatClampNeg) &&& (63 : Int32)), .int ((((bd_made b) (((bd_depth b) - (1 : Int32))).toNatClampNeg) >>> ((6 : Int32) &&& 31)) &&& (63 : Int32)), am_ju] [] (zl sn sx, xa c0 T D r ((bd_men b), (bd_held b), (bd_kings b), ((1 : Int32) - (bd_side b)), (bd_rights b), (bd_passed b), ((bd_depth b) - (1 : Int32)), (bd_made b), (bd_taken b), (bd_takenAt b), (bd_rightsBefore b), (bd_passedBefore b)) tl, M, q) c11 (fun _ _ => rfl) ?_
      refine am_ev.kg 6 (pc' := 76) (lv' := [.ref 114, .int ((bd_made b) (((bd_depth b) - (1 : Int32))).toNatClampNeg), .int (((bd_made b) (((bd_depth b) - (1 : Int32))).toNatClampNeg) &&& (63 : Int32)), .int ((((bd_made b) (((bd_depth b) - (1 : Int32))).toNatClampNeg) >>> ((6 : Int32) &&& 31)) &&& (63 : Int32)), am_ju]) (st' := [.int ((1 : Int32) + ((8 : Int32) * ((1 : Int32) - (bd_side b))))]) (h' := (zl sn sx, xa c0 T D r ((bd_men b), (bd_held b), (bd_kings b), ((1 : Int32) - (bd_side b)), (bd_rights b), (bd_passed b), ((bd_depth b) - (1 : Int32)), (bd_made b), (bd_taken b), (bd_takenAt b), (bd_rightsBefore b), (bd_passedBefore b)) tl, M, q)) (fun _ _ => rfl) ?_
      refine am_ev.wk (lv' := [.ref 114, am_ju, .int (((bd_made b) (((bd_depth b) - (1 : Int32))).toNatClampNeg) &&& (63 : Int32)), .int ((((bd_made b) (((bd_depth b) - (1 : Int32))).toNatClampNeg) >>> ((6 : Int32) &&& 31)) &&& (63 : Int32)), am_ju]) (am_lc (Or.inr rfl) (am_lc (Or.inl rfl) (am_lc (Or.inr rfl) (am_lc (Or.inr rfl) (am_lc (Or.inr rfl) am_ln))))) ?_
      exact sj_Board_unmake_B_76 hx hM
    · refine am_ev.ke 15 67 58 [.ref 114, .int ((bd_made b) (((bd_depth b) - (1 : Int32))).toNatClampNeg), .int (((bd_made b) (((bd_depth b) - (1 : Int32))).toNatClampNeg) &&& (63 : Int32)), .int ((((bd_made b) (((bd_depth b) - (1 : Int32))).toNatClampNeg) >>> ((6 : Int32) &&& 31)) &&& (63 : Int32)), am_ju] [] (zl sn sx, xa c0 T D r ((bd_men b), (bd_held b), (bd_kings b), ((1 : Int32) - (bd_side b)), (bd_rights b), (bd_passed b), ((bd_depth b) - (1 : Int32)), (bd_made b), (bd_taken b), (bd_takenAt b), (bd_rightsBefore b), (bd_passedBefore b)) tl, M, q) c11 (fun _ _ => rfl) ?_
      obtain ⟨c12, hM⟩ := am_ifn hM
      refine am_ev.kc 4 64 [.ref 114, .int ((bd_made b) (((bd_depth b) - (1 : Int32))).toNatClampNeg), .int (((bd_made b) (((bd_depth b) - (1 : Int32))).toNatClampNeg) &&& (63 : Int32)), .int ((((bd_made b) (((bd_depth b) - (1 : Int32))).toNatClampNeg) >>> ((6 : Int32) &&& 31)) &&& (63 : Int32)), am_ju] [.int ((bd_men b) (((((bd_made b) (((bd_depth b) - (1 : Int32))).toNatClampNeg) >>> ((6 : Int32) &&& 31)) &&& (63 : Int32))).toNatClampNeg)] (zl sn sx, xa c0 T D r ((bd_men b), (bd_held b), (bd_kings b), ((1 : Int32) - (bd_side b)), (bd_rights b), (bd_passed b), ((bd_depth b) - (1 : Int32)), (bd_made b), (bd_taken b), (bd_takenAt b), (bd_rightsBefore b), (bd_passedBefore b)) tl, M, q) c12 (fun _ _ => rfl) ?_
      refine am_ev.kg 1 (pc' := 76) (lv' := [.ref 114, .int ((bd_made b) (((bd_depth b) - (1 : Int32))).toNatClampNeg), .int (((bd_made b) (((bd_depth b) - (1 : Int32))).toNatClampNeg) &&& (63 : Int32)), .int ((((bd_made b) (((bd_depth b) - (1 : Int32))).toNatClampNeg) >>> ((6 : Int32) &&& 31)) &&& (63 : Int32)), am_ju]) (st' := [.int ((bd_men b) (((((bd_made b) (((bd_depth b) - (1 : Int32))).toNatClampNeg) >>> ((6 : Int32) &&& 31)) &&& (63 : Int32))).toNatClampNeg)]) (h' := (zl sn sx, xa c0 T D r ((bd_men b), (bd_held b), (bd_kings b), ((1 : Int32) - (bd_side b)), (bd_rights b), (bd_passed b), ((bd_depth b) - (1 : Int32)), (bd_made b), (bd_taken b), (bd_takenAt b), (bd_rightsBefore b), (bd_passedBefore b)) tl, M, q)) (fun _ _ => rfl) ?_
      refine am_ev.wk (lv' := [.ref 114, am_ju, .int (((bd_made b) (((bd_depth b) - (1 : Int32))).toNatClampNeg) &&& (63 : Int32)), .int ((((bd_made b) (((bd_depth b) - (1 : Int32))).toNatClampNeg) >>> ((6 : Int32) &&& 31)) &&& (63 : Int32)), am_ju]) (am_lc (Or.inr rfl) (am_lc (Or.inl rfl) (am_lc (Or.inr rfl) (am_lc (Or.inr rfl) (am_lc (Or.inr rfl) am_ln))))) ?_
      exact sj_Board_unmake_B_76 hx hM
  · refine am_ev.ke 3 8 7 [.ref 114, am_ju, am_ju, am_ju, am_ju] [] (zl sn sx, xa c0 T D r b tl, M, q) c9 (fun _ _ => rfl) ?_
    cases hM
    cases hx
    exact am_ev.kf 1 (fun _ _ => rfl)
theorem s_Board_unmake_B {sn : Nat} {sx : Nat → Int32} {M : List am_C} {q : Nat × Nat} {c0 : am_C} {tl : List am_C} {T : TxT} {D : BdT} {r : RdT} {b : BdT} {ob : BdT} (hM : f_Board_unmake b = some ob) : am_cv 4 k_Board_unmake [.ref 114] (zl sn sx, xa c0 T D r b tl, M, q) (.inl none, (zl sn sx, xa c0 T D r ob tl, M, q)) := am_cv.of rfl (se_Board_unmake_B (e := ob) (show y_Board_unmake_B sn sx M q c0 tl T D r _ ob from rfl) hM)
def y_Board_pawnAttacks_B (sn : Nat) (sx : Nat → Int32) (M : List am_C) (q : Nat × Nat) (c0 : am_C) (tl : List am_C) (T : TxT) (D : BdT) (r : RdT) (b : BdT) (oo : am_O) : Int32 → Prop
  | ov => oo = (.inl (some (.int ov)), (zl sn sx, xa c0 T D r b tl, M, q))
theorem sj_Board_pawnAttacks_B_65 {sn : Nat} {sx : Nat → Int32} {M : List am_C} {q : Nat × Nat} {c0 : am_C} {tl : List am_C} {T : TxT} {D : BdT} {r : RdT} {b : BdT} {x3 : Int32} {x6 : Int32} {oo : am_O} {e : Int32} (hx : y_Board_pawnAttacks_B sn sx M q c0 tl T D r b oo e) (hM : j_Board_pawnAttacks_65 b x3 x6 = some e) : am_ev 1 k_Board_pawnAttacks (65, [.ref 114, am_ju, am_ju, .int x3, am_ju, am_ju, .int x6], [], (zl sn sx, xa c0 T D r b tl, M, q)) oo := by
  unfold j_Board_pawnAttacks_65 at hM
  rcases am_if hM with ⟨c1, hM⟩ | ⟨c1, hM⟩
  · refine am_ev.kt 2 85 70 [.ref 114, am_ju, am_ju, .int x3, am_ju, am_ju, .int x6] [] (zl sn sx, xa c0 T D r b tl, M, q) c1 (fun _ _ => rfl) ?_
    cases hM
    cases hx
    exact am_ev.kf 2 (fun _ _ => rfl)
  · refine am_ev.ke 2 85 70 [.ref 114, am_ju, am_ju, .int x3, am_ju, am_ju, .int x6] [] (zl sn sx, xa c0 T D r b tl, M, q) c1 (fun _ _ => rfl) ?_
    obtain ⟨c2, hM⟩ := am_ifn hM
    refine am_ev.kc 4 77 [.ref 114, am_ju, am_ju, .int x3, am_ju, am_ju, .int x6] [.int ((bd_men b) (x6).toNatClampNeg)] (zl sn sx, xa c0 T D r b tl, M, q) c2 (fun _ _ => rfl) ?_
    rcases am_if hM with ⟨c3, hM⟩ | ⟨c3, hM⟩
    · refine am_ev.kt 2 85 81 [.ref 114, am_ju, am_ju, .int x3, am_ju, am_ju, .int x6] [] (zl sn sx, xa c0 T D r b tl, M, q) c3 (fun _ _ => rfl) ?_
      cases hM
      cases hx
      exact am_ev.kf 2 (fun _ _ => rfl)
    · refine am_ev.ke 2 85 81 [.ref 114, am_ju, am_ju, .int x3, am_ju, am_ju, .int x6] [] (zl sn sx, xa c0 T D r b tl, M, q) c3 (fun _ _ => rfl) ?_
      cases hM
      cases hx
      exact am_ev.kf 3 (fun _ _ => rfl)
theorem sj_Board_pawnAttacks_B_17 {sn : Nat} {sx : Nat → Int32} {M : List am_C} {q : Nat × Nat} {c0 : am_C} {tl : List am_C} {T : TxT} {D : BdT} {r : RdT} {b : BdT} {x1 : Int32} {x3 : Int32} {s0 : Int32} {oo : am_O} {e : Int32} (hx : y_Board_pawnAttacks_B sn sx M q c0 tl T D r b oo e) (hM : j_Board_pawnAttacks_17 b x1 x3 s0 = some e) : am_ev 1 k_Board_pawnAttacks (17, [.ref 114, .int x1, am_ju, .int x3, am_ju, am_ju, am_ju], [.int s0], (zl sn sx, xa c0 T D r b tl, M, q)) oo := by
  unfold j_Board_pawnAttacks_17 at hM
  obtain ⟨c4, hM⟩ := am_ifn hM
  refine am_ev.kc 9 31 [.ref 114, .int x1, am_ju, .int x3, .int s0, am_ju, am_ju] [.int (tb_next ((((64 : Int32) * s0) + x1)).toNatClampNeg)] (zl sn sx, xa c0 T D r b tl, M, q) c4 (fun _ _ => rfl) ?_
  obtain ⟨c5, hM⟩ := am_ifn hM
  refine am_ev.kc 11 47 [.ref 114, .int x1, am_ju, .int x3, .int s0, .int (tb_next ((((64 : Int32) * s0) + x1)).toNatClampNeg), am_ju] [.int (tb_next ((((64 : Int32) * (s0 + (1 : Int32))) + x1)).toNatClampNeg)] (zl sn sx, xa c0 T D r b tl, M, q) c5 (fun _ _ => rfl) ?_
  rcases am_if hM with ⟨c6, hM⟩ | ⟨c6, hM⟩
  · refine am_ev.kt 3 65 54 [.ref 114, .int x1, am_ju, .int x3, .int s0, .int (tb_next ((((64 : Int32) * s0) + x1)).toNatClampNeg), .int (tb_next ((((64 : Int32) * (s0 + (1 : Int32))) + x1)).toNatClampNeg)] [] (zl sn sx, xa c0 T D r b tl, M, q) c6 (fun _ _ => rfl) ?_
    refine am_ev.wk (lv' := [.ref 114, am_ju, am_ju, .int x3, am_ju, am_ju, .int (tb_next ((((64 : Int32) * (s0 + (1 : Int32))) + x1)).toNatClampNeg)]) (am_lc (Or.inr rfl) (am_lc (Or.inl rfl) (am_lc (Or.inr rfl) (am_lc (Or.inr rfl) (am_lc (Or.inl rfl) (am_lc (Or.inl rfl) (am_lc (Or.inr rfl) am_ln))))))) ?_
    exact sj_Board_pawnAttacks_B_65 hx hM
  · refine am_ev.ke 3 65 54 [.ref 114, .int x1, am_ju, .int x3, .int s0, .int (tb_next ((((64 : Int32) * s0) + x1)).toNatClampNeg), .int (tb_next ((((64 : Int32) * (s0 + (1 : Int32))) + x1)).toNatClampNeg)] [] (zl sn sx, xa c0 T D r b tl, M, q) c6 (fun _ _ => rfl) ?_
    obtain ⟨c7, hM⟩ := am_ifn hM
    refine am_ev.kc 4 61 [.ref 114, .int x1, am_ju, .int x3, .int s0, .int (tb_next ((((64 : Int32) * s0) + x1)).toNatClampNeg), .int (tb_next ((((64 : Int32) * (s0 + (1 : Int32))) + x1)).toNatClampNeg)] [.int ((bd_men b) ((tb_next ((((64 : Int32) * s0) + x1)).toNatClampNeg)).toNatClampNeg)] (zl sn sx, xa c0 T D r b tl, M, q) c7 (fun _ _ => rfl) ?_
    rcases am_if hM with ⟨c8, hM⟩ | ⟨c8, hM⟩
    · refine am_ev.kt 2 81 65 [.ref 114, .int x1, am_ju, .int x3, .int s0, .int (tb_next ((((64 : Int32) * s0) + x1)).toNatClampNeg), .int (tb_next ((((64 : Int32) * (s0 + (1 : Int32))) + x1)).toNatClampNeg)] [] (zl sn sx, xa c0 T D r b tl, M, q) c8 (fun _ _ => rfl) ?_
      cases hM
      cases hx
      exact am_ev.kf 3 (fun _ _ => rfl)
    · refine am_ev.ke 2 81 65 [.ref 114, .int x1, am_ju, .int x3, .int s0, .int (tb_next ((((64 : Int32) * s0) + x1)).toNatClampNeg), .int (tb_next ((((64 : Int32) * (s0 + (1 : Int32))) + x1)).toNatClampNeg)] [] (zl sn sx, xa c0 T D r b tl, M, q) c8 (fun _ _ => rfl) ?_
      refine am_ev.wk (lv' := [.ref 114, am_ju, am_ju, .int x3, am_ju, am_ju, .int (tb_next ((((64 : Int32) * (s0 + (1 : Int32))) + x1)).toNatClampNeg)]) (am_lc (Or.inr rfl) (am_lc (Or.inl rfl) (am_lc (Or.inr rfl) (am_lc (Or.inr rfl) (am_lc (Or.inl rfl) (am_lc (Or.inl rfl) (am_lc (Or.inr rfl) am_ln))))))) ?_
      exact sj_Board_pawnAttacks_B_65 hx hM
theorem se_Board_pawnAttacks_B {sn : Nat} {sx : Nat → Int32} {M : List am_C} {q : Nat × Nat} {c0 : am_C} {tl : List am_C} {T : TxT} {D : BdT} {r : RdT} {b : BdT} {x1 : Int32} {x2 : Int32} {oo : am_O} {e : Int32} (hx : y_Board_pawnAttacks_B sn sx M q c0 tl T D r b oo e) (hM : f_Board_pawnAttacks x1 x2 b = some e) : am_ev 1 k_Board_pawnAttacks (0, [.ref 114, .int x1, .int x2, am_ju, am_ju, am_ju, am_ju], [], (zl sn sx, xa c0 T D r b tl, M, q)) oo := by
  unfold f_Board_pawnAttacks at hM
  rcases am_if hM with ⟨c9, hM⟩ | ⟨c9, hM⟩
  · refine am_ev.kt 8 16 11 [.ref 114, .int x1, .int x2, .int ((1 : Int32) + ((8 : Int32) * x2)), am_ju, am_ju, am_ju] [] (zl sn sx, xa c0 T D r b tl, M, q) c9 (fun _ _ => rfl) ?_
    refine am_ev.kg 1 (pc' := 17) (lv' := [.ref 114, .int x1, .int x2, .int ((1 : Int32) + ((8 : Int32) * x2)), am_ju, am_ju, am_ju]) (st' := [.int (4 : Int32)]) (h' := (zl sn sx, xa c0 T D r b tl, M, q)) (fun _ _ => rfl) ?_
    refine am_ev.wk (lv' := [.ref 114, .int x1, am_ju, .int ((1 : Int32) + ((8 : Int32) * x2)), am_ju, am_ju, am_ju]) (am_lc (Or.inr rfl) (am_lc (Or.inr rfl) (am_lc (Or.inl rfl) (am_lc (Or.inr rfl) (am_lc (Or.inr rfl) (am_lc (Or.inr rfl) (am_lc (Or.inr rfl) am_ln))))))) ?_
    exact sj_Board_pawnAttacks_B_17 hx hM
  · refine am_ev.ke 8 16 11 [.ref 114, .int x1, .int x2, .int ((1 : Int32) + ((8 : Int32) * x2)), am_ju, am_ju, am_ju] [] (zl sn sx, xa c0 T D r b tl, M, q) c9 (fun _ _ => rfl) ?_
    refine am_ev.kg 2 (pc' := 17) (lv' := [.ref 114, .int x1, .int x2, .int ((1 : Int32) + ((8 : Int32) * x2)), am_ju, am_ju, am_ju]) (st' := [.int (6 : Int32)]) (h' := (zl sn sx, xa c0 T D r b tl, M, q)) (fun _ _ => rfl) ?_
    refine am_ev.wk (lv' := [.ref 114, .int x1, am_ju, .int ((1 : Int32) + ((8 : Int32) * x2)), am_ju, am_ju, am_ju]) (am_lc (Or.inr rfl) (am_lc (Or.inr rfl) (am_lc (Or.inl rfl) (am_lc (Or.inr rfl) (am_lc (Or.inr rfl) (am_lc (Or.inr rfl) (am_lc (Or.inr rfl) am_ln))))))) ?_
    exact sj_Board_pawnAttacks_B_17 hx hM
theorem s_Board_pawnAttacks_B {sn : Nat} {sx : Nat → Int32} {M : List am_C} {q : Nat × Nat} {c0 : am_C} {tl : List am_C} {T : TxT} {D : BdT} {r : RdT} {b : BdT} {x1 : Int32} {x2 : Int32} {ov : Int32} (hM : f_Board_pawnAttacks x1 x2 b = some ov) : am_cv 2 k_Board_pawnAttacks [.ref 114, .int x1, .int x2] (zl sn sx, xa c0 T D r b tl, M, q) (.inl (some (.int ov)), (zl sn sx, xa c0 T D r b tl, M, q)) := am_cv.of rfl (se_Board_pawnAttacks_B (e := ov) (show y_Board_pawnAttacks_B sn sx M q c0 tl T D r b _ ov from rfl) hM)
def y_Board_make_B (sn : Nat) (sx : Nat → Int32) (M : List am_C) (q : Nat × Nat) (c0 : am_C) (tl : List am_C) (T : TxT) (D : BdT) (r : RdT) (oo : am_O) : BdT → Prop
  | ob => oo = (.inl none, (zl sn sx, xa c0 T D r ob tl, M, q))
theorem sj_Board_make_B_272 {sn : Nat} {sx : Nat → Int32} {M : List am_C} {q : Nat × Nat} {c0 : am_C} {tl : List am_C} {T : TxT} {D : BdT} {r : RdT} {b : BdT} {x8 : Int32} {s0 : Int32} {oo : am_O} {e : BdT} (hx : y_Board_make_B sn sx M q c0 tl T D r oo e) (hM : j_Board_make_272 b x8 s0 = some e) : am_ev 3 k_Board_make (272, [.ref 114, am_ju, am_ju, am_ju, am_ju, am_ju, am_ju, am_ju, .int x8, am_ju], [.int s0], (zl sn sx, xa c0 T D r b tl, M, q)) oo := by
  unfold j_Board_make_272 at hM
  rcases am_if hM with ⟨c1, hM⟩ | ⟨c1, hM⟩
  · refine am_ev.kt 4 298 280 [.ref 114, am_ju, am_ju, am_ju, am_ju, am_ju, am_ju, am_ju, .int x8, .int s0] [.ref 114] (zl sn sx, xa c0 T D r b tl, M, q) c1 (fun _ _ => rfl) ?_
    cases hM
    cases hx
    exact am_ev.kf 3 (fun _ _ => rfl)
  · refine am_ev.ke 4 298 280 [.ref 114, am_ju, am_ju, am_ju, am_ju, am_ju, am_ju, am_ju, .int x8, .int s0] [.ref 114] (zl sn sx, xa c0 T D r b tl, M, q) c1 (fun _ _ => rfl) ?_
    obtain ⟨rr, hc, hM⟩ := am_bind hM
    obtain ⟨r5, rfl⟩ : ∃ z, z = rr := ⟨_, rfl⟩
    refine am_ev.kg 4 (pc' := 287) (lv' := [.ref 114, am_ju, am_ju, am_ju, am_ju, am_ju, am_ju, am_ju, .int x8, .int s0]) (st' := [.int (bd_side b), .int x8, .ref 114, .ref 114]) (h' := (zl sn sx, xa c0 T D r b tl, M, q)) (fun _ _ => rfl) ?_
    refine am_ev.call rfl rfl rfl ((s_Board_pawnAttacks_B hc).mono (by decide)) ?_
    show am_ev _ k_Board_make (290, [.ref 114, am_ju, am_ju, am_ju, am_ju, am_ju, am_ju, am_ju, .int x8, .int s0], [.int r5, .ref 114], (zl sn sx, xa c0 T D r b tl, M, q)) oo
    rcases am_if hM with ⟨c2, hM⟩ | ⟨c2, hM⟩
    · refine am_ev.kt 1 298 293 [.ref 114, am_ju, am_ju, am_ju, am_ju, am_ju, am_ju, am_ju, .int x8, .int s0] [.ref 114] (zl sn sx, xa c0 T D r b tl, M, q) c2 (fun _ _ => rfl) ?_
      cases hM
      cases hx
      exact am_ev.kf 3 (fun _ _ => rfl)
    · refine am_ev.ke 1 298 293 [.ref 114, am_ju, am_ju, am_ju, am_ju, am_ju, am_ju, am_ju, .int x8, .int s0] [.ref 114] (zl sn sx, xa c0 T D r b tl, M, q) c2 (fun _ _ => rfl) ?_
      cases hM
      cases hx
      exact am_ev.kf 4 (fun _ _ => rfl)
theorem sj_Board_make_B_271 {sn : Nat} {sx : Nat → Int32} {M : List am_C} {q : Nat × Nat} {c0 : am_C} {tl : List am_C} {T : TxT} {D : BdT} {r : RdT} {b : BdT} {x8 : Int32} {oo : am_O} {e : BdT} (hx : y_Board_make_B sn sx M q c0 tl T D r oo e) (hM : j_Board_make_271 b x8 = some e) : am_ev 3 k_Board_make (271, [.ref 114, am_ju, am_ju, am_ju, am_ju, am_ju, am_ju, am_ju, .int x8, am_ju], [], (zl sn sx, xa c0 T D r b tl, M, q)) oo := by
  unfold j_Board_make_271 at hM
  refine am_ev.kg 1 (pc' := 272) (lv' := [.ref 114, am_ju, am_ju, am_ju, am_ju, am_ju, am_ju, am_ju, .int x8, am_ju]) (st' := [.int (0 : Int32)]) (h' := (zl sn sx, xa c0 T D r b tl, M, q)) (fun _ _ => rfl) ?_
  exact sj_Board_make_B_272 hx hM
theorem sj_Board_make_B_212 {sn : Nat} {sx : Nat → Int32} {M : List am_C} {q : Nat × Nat} {c0 : am_C} {tl : List am_C} {T : TxT} {D : BdT} {r : RdT} {b : BdT} {x2 : Int32} {x3 : Int32} {x6 : Int32} {oo : am_O} {e : BdT} (hx : y_Board_make_B sn sx M q c0 tl T D r oo e) (hM : j_Board_make_212 b x2 x3 x6 = some e) : am_ev 3 k_Board_make (212, [.ref 114, am_ju, .int x2, .int x3, am_ju, am_ju, .int x6, am_ju, am_ju, am_ju], [], (zl sn sx, xa c0 T D r b tl, M, q)) oo := by
  unfold j_Board_make_212 at hM
  obtain ⟨c3, hM⟩ := am_ifn hM
  refine am_ev.kc 6 222 [.ref 114, am_ju, .int x2, .int x3, am_ju, am_ju, .int x6, am_ju, am_ju, am_ju] [.int (tb_RIGHTS_AT (x2).toNatClampNeg), .int (bd_rights b), .ref 114] (zl sn sx, xa c0 T D r b tl, M, q) c3 (fun _ _ => rfl) ?_
  obtain ⟨c4, hM⟩ := am_ifn hM
  refine am_ev.kc 3 227 [.ref 114, am_ju, .int x2, .int x3, am_ju, am_ju, .int x6, am_ju, am_ju, am_ju] [.int (tb_RIGHTS_AT (x3).toNatClampNeg), .int (tb_RIGHTS_AT (x2).toNatClampNeg), .int (bd_rights b), .ref 114] (zl sn sx, xa c0 T D r b tl, M, q) c4 (fun _ _ => rfl) ?_
  rcases am_if hM with ⟨c5, hM⟩ | ⟨c5, hM⟩
  · refine am_ev.kt 19 271 256 [.ref 114, am_ju, .int x2, .int x3, am_ju, am_ju, .int x6, am_ju, .int ((x2 + x3) >>> ((1 : Int32) &&& 31)), am_ju] [] (zl sn sx, xa c0 T D r ((bd_men b), (bd_held b), (bd_kings b), ((1 : Int32) - (bd_side b)), ((bd_rights b) &&& (((tb_RIGHTS_AT (x2).toNatClampNeg) ||| (tb_RIGHTS_AT (x3).toNatClampNeg)) ^^^ (-1 : Int32))), (bd_passed b), (bd_depth b), (bd_made b), (bd_taken b), (bd_takenAt b), (bd_rightsBefore b), (bd_passedBefore b)) tl, M, q) c5 (fun _ _ => rfl) ?_
    refine am_ev.wk (lv' := [.ref 114, am_ju, am_ju, am_ju, am_ju, am_ju, am_ju, am_ju, .int ((x2 + x3) >>> ((1 : Int32) &&& 31)), am_ju]) (am_lc (Or.inr rfl) (am_lc (Or.inr rfl) (am_lc (Or.inl rfl) (am_lc (Or.inl rfl) (am_lc (Or.inr rfl) (am_lc (Or.inr rfl) (am_lc (Or.inl rfl) (am_lc (Or.inr rfl) (am_lc (Or.inr rfl) (am_lc (Or.inr rfl) am_ln)))))))))) ?_
    exact sj_Board_make_B_271 hx hM
  · refine am_ev.ke 19 271 256 [.ref 114, am_ju, .int x2, .int x3, am_ju, am_ju, .int x6, am_ju, .int ((x2 + x3) >>> ((1 : Int32) &&& 31)), am_ju] [] (zl sn sx, xa c0 T D r ((bd_men b), (bd_held b), (bd_kings b), ((1 : Int32) - (bd_side b)), ((bd_rights b) &&& (((tb_RIGHTS_AT (x2).toNatClampNeg) ||| (tb_RIGHTS_AT (x3).toNatClampNeg)) ^^^ (-1 : Int32))), (bd_passed b), (bd_depth b), (bd_made b), (bd_taken b), (bd_takenAt b), (bd_rightsBefore b), (bd_passedBefore b)) tl, M, q) c5 (fun _ _ => rfl) ?_
    rcases am_if hM with ⟨c6, hM⟩ | ⟨c6, hM⟩
    · refine am_ev.kt 6 271 267 [.ref 114, am_ju, .int x2, .int x3, am_ju, am_ju, .int x6, am_ju, .int ((x2 + x3) >>> ((1 : Int32) &&& 31)), am_ju] [] (zl sn sx, xa c0 T D r ((bd_men b), (bd_held b), (bd_kings b), ((1 : Int32) - (bd_side b)), ((bd_rights b) &&& (((tb_RIGHTS_AT (x2).toNatClampNeg) ||| (tb_RIGHTS_AT (x3).toNatClampNeg)) ^^^ (-1 : Int32))), (bd_passed b), (bd_depth b), (bd_made b), (bd_taken b), (bd_takenAt b), (bd_rightsBefore b), (bd_passedBefore b)) tl, M, q) c6 (fun _ _ => rfl) ?_
      refine am_ev.wk (lv' := [.ref 114, am_ju, am_ju, am_ju, am_ju, am_ju, am_ju, am_ju, .int ((x2 + x3) >>> ((1 : Int32) &&& 31)), am_ju]) (am_lc (Or.inr rfl) (am_lc (Or.inr rfl) (am_lc (Or.inl rfl) (am_lc (Or.inl rfl) (am_lc (Or.inr rfl) (am_lc (Or.inr rfl) (am_lc (Or.inl rfl) (am_lc (Or.inr rfl) (am_lc (Or.inr rfl) (am_lc (Or.inr rfl) am_ln)))))))))) ?_
      exact sj_Board_make_B_271 hx hM
    · refine am_ev.ke 6 271 267 [.ref 114, am_ju, .int x2, .int x3, am_ju, am_ju, .int x6, am_ju, .int ((x2 + x3) >>> ((1 : Int32) &&& 31)), am_ju] [] (zl sn sx, xa c0 T D r ((bd_men b), (bd_held b), (bd_kings b), ((1 : Int32) - (bd_side b)), ((bd_rights b) &&& (((tb_RIGHTS_AT (x2).toNatClampNeg) ||| (tb_RIGHTS_AT (x3).toNatClampNeg)) ^^^ (-1 : Int32))), (bd_passed b), (bd_depth b), (bd_made b), (bd_taken b), (bd_takenAt b), (bd_rightsBefore b), (bd_passedBefore b)) tl, M, q) c6 (fun _ _ => rfl) ?_
      refine am_ev.kg 2 (pc' := 272) (lv' := [.ref 114, am_ju, .int x2, .int x3, am_ju, am_ju, .int x6, am_ju, .int ((x2 + x3) >>> ((1 : Int32) &&& 31)), am_ju]) (st' := [.int (1 : Int32)]) (h' := (zl sn sx, xa c0 T D r ((bd_men b), (bd_held b), (bd_kings b), ((1 : Int32) - (bd_side b)), ((bd_rights b) &&& (((tb_RIGHTS_AT (x2).toNatClampNeg) ||| (tb_RIGHTS_AT (x3).toNatClampNeg)) ^^^ (-1 : Int32))), (bd_passed b), (bd_depth b), (bd_made b), (bd_taken b), (bd_takenAt b), (bd_rightsBefore b), (bd_passedBefore b)) tl, M, q)) (fun _ _ => rfl) ?_
      refine am_ev.wk (lv' := [.ref 114, am_ju, am_ju, am_ju, am_ju, am_ju, am_ju, am_ju, .int ((x2 + x3) >>> ((1 : Int32) &&& 31)), am_ju]) (am_lc (Or.inr rfl) (am_lc (Or.inr rfl) (am_lc (Or.inl rfl) (am_lc (Or.inl rfl) (am_lc (Or.inr rfl) (am_lc (Or.inr rfl) (am_lc (Or.inl rfl) (am_lc (Or.inr rfl) (am_lc (Or.inr rfl) (am_lc (Or.inr rfl) am_ln)))))))))) ?_
      exact sj_Board_make_B_272 hx hM
theorem sj_Board_make_B_182 {sn : Nat} {sx : Nat → Int32} {M : List am_C} {q : Nat × Nat} {c0 : am_C} {tl : List am_C} {T : TxT} {D : BdT} {r : RdT} {b : BdT} {x2 : Int32} {x3 : Int32} {x5 : Int32} {x6 : Int32} {s1 : Int32} {s2 : Int32} {oo : am_O} {e : BdT} (hx : y_Board_make_B sn sx M q c0 tl T D r oo e) (hM : j_Board_make_182 b x2 x3 x5 x6 s1 s2 = some e) : am_ev 3 k_Board_make (182, [.ref 114, am_ju, .int x2, .int x3, am_ju, .int x5, .int x6, am_ju, am_ju, am_ju], [.int s2, .int s1, .ref 114], (zl sn sx, xa c0 T D r b tl, M, q)) oo := by
  unfold j_Board_make_182 at hM
  obtain ⟨rr, hc, hM⟩ := am_bind hM
  obtain ⟨bg3, rfl⟩ : ∃ z, z = rr := ⟨_, rfl⟩
  refine am_ev.call rfl rfl rfl ((s_Board_put_B hc).mono (by decide)) ?_
  show am_ev _ k_Board_make (185, [.ref 114, am_ju, .int x2, .int x3, am_ju, .int x5, .int x6, am_ju, am_ju, am_ju], [], (zl sn sx, xa c0 T D r bg3 tl, M, q)) oo
  rcases am_if hM with ⟨c7, hM⟩ | ⟨c7, hM⟩
  · refine am_ev.kt 5 212 195 [.ref 114, am_ju, .int x2, .int x3, am_ju, .int x5, .int x6, am_ju, am_ju, am_ju] [] (zl sn sx, xa c0 T D r bg3 tl, M, q) c7 (fun _ _ => rfl) ?_
    refine am_ev.wk (lv' := [.ref 114, am_ju, .int x2, .int x3, am_ju, am_ju, .int x6, am_ju, am_ju, am_ju]) (am_lc (Or.inr rfl) (am_lc (Or.inr rfl) (am_lc (Or.inr rfl) (am_lc (Or.inr rfl) (am_lc (Or.inr rfl) (am_lc (Or.inl rfl) (am_lc (Or.inr rfl) (am_lc (Or.inr rfl) (am_lc (Or.inr rfl) (am_lc (Or.inr rfl) am_ln)))))))))) ?_
    exact sj_Board_make_B_212 hx hM
  · refine am_ev.ke 5 212 195 [.ref 114, am_ju, .int x2, .int x3, am_ju, .int x5, .int x6, am_ju, am_ju, am_ju] [] (zl sn sx, xa c0 T D r bg3 tl, M, q) c7 (fun _ _ => rfl) ?_
    obtain ⟨c8, hM⟩ := am_ifn hM
    refine am_ev.kc 6 205 [.ref 114, am_ju, .int x2, .int x3, am_ju, .int x5, .int x6, am_ju, am_ju, am_ju] [] (zl sn sx, xa c0 T D r ((bd_men bg3), (bd_held bg3), (upd (bd_kings bg3) ((bd_side bg3)).toNatClampNeg x3), (bd_side bg3), (bd_rights bg3), (bd_passed bg3), (bd_depth bg3), (bd_made bg3), (bd_taken bg3), (bd_takenAt bg3), (bd_rightsBefore bg3), (bd_passedBefore bg3)) tl, M, q) c8 (fun _ _ => rfl) ?_
    obtain ⟨rr, hc, hM⟩ := am_bind hM
    obtain ⟨bg4, rfl⟩ : ∃ z, z = rr := ⟨_, rfl⟩
    refine am_ev.kg 4 (pc' := 209) (lv' := [.ref 114, am_ju, .int x2, .int x3, am_ju, .int x5, .int x6, am_ju, am_ju, am_ju]) (st' := [.int (1 : Int32), .int x3, .int x2, .ref 114]) (h' := (zl sn sx, xa c0 T D r ((bd_men bg3), (bd_held bg3), (upd (bd_kings bg3) ((bd_side bg3)).toNatClampNeg x3), (bd_side bg3), (bd_rights bg3), (bd_passed bg3), (bd_depth bg3), (bd_made bg3), (bd_taken bg3), (bd_takenAt bg3), (bd_rightsBefore bg3), (bd_passedBefore bg3)) tl, M, q)) (fun _ _ => rfl) ?_
    refine am_ev.call rfl rfl rfl ((s_Board_castleRook_B hc).mono (by decide)) ?_
    show am_ev _ k_Board_make (212, [.ref 114, am_ju, .int x2, .int x3, am_ju, .int x5, .int x6, am_ju, am_ju, am_ju], [], (zl sn sx, xa c0 T D r bg4 tl, M, q)) oo
    refine am_ev.wk (lv' := [.ref 114, am_ju, .int x2, .int x3, am_ju, am_ju, .int x6, am_ju, am_ju, am_ju]) (am_lc (Or.inr rfl) (am_lc (Or.inr rfl) (am_lc (Or.inr rfl) (am_lc (Or.inr rfl) (am_lc (Or.inr rfl) (am_lc (Or.inl rfl) (am_lc (Or.inr rfl) (am_lc (Or.inr rfl) (am_lc (Or.inr rfl) (am_lc (Or.inr rfl) am_ln)))))))))) ?_
    exact sj_Board_make_B_212 hx hM
theorem sj_Board_make_B_74 {sn : Nat} {sx : Nat → Int32} {M : List am_C} {q : Nat × Nat} {c0 : am_C} {tl : List am_C} {T : TxT} {D : BdT} {r : RdT} {b : BdT} {x1 : Int32} {x2 : Int32} {x3 : Int32} {x4 : Int32} {x5 : Int32} {x6 : Int32} {s0 : Int32} {oo : am_O} {e : BdT} (hx : y_Board_make_B sn sx M q c0 tl T D r oo e) (hM : j_Board_make_74 b x1 x2 x3 x4 x5 x6 s0 = some e) : am_ev 3 k_Board_make (74, [.ref 114, .int x1, .int x2, .int x3, .int x4, .int x5, .int x6, am_ju, am_ju, am_ju], [.int s0], (zl sn sx, xa c0 T D r b tl, M, q)) oo := by
  unfold j_Board_make_74 at hM
  obtain ⟨c9, hM⟩ := am_ifn hM
  refine am_ev.kc 7 86 [.ref 114, .int x1, .int x2, .int x3, .int x4, .int x5, .int x6, .int s0, am_ju, am_ju] [] (zl sn sx, xa c0 T D r ((bd_men b), (bd_held b), (bd_kings b), (bd_side b), (bd_rights b), (bd_passed b), (bd_depth b), (upd (bd_made b) ((bd_depth b)).toNatClampNeg x1), (bd_taken b), (bd_takenAt b), (bd_rightsBefore b), (bd_passedBefore b)) tl, M, q) c9 (fun _ _ => rfl) ?_
  obtain ⟨c10, hM⟩ := am_ifn hM
  refine am_ev.kc 8 101 [.ref 114, .int x1, .int x2, .int x3, .int x4, .int x5, .int x6, .int s0, am_ju, am_ju] [.int ((bd_men b) (s0).toNatClampNeg), .int (bd_depth b), .ref 119] (zl sn sx, xa c0 T D r ((bd_men b), (bd_held b), (bd_kings b), (bd_side b), (bd_rights b), (bd_passed b), (bd_depth b), (upd (bd_made b) ((bd_depth b)).toNatClampNeg x1), (bd_taken b), (bd_takenAt b), (bd_rightsBefore b), (bd_passedBefore b)) tl, M, q) c10 (fun _ _ => rfl) ?_
  obtain ⟨c11, hM⟩ := am_ifn hM
  refine am_ev.kc 1 102 [.ref 114, .int x1, .int x2, .int x3, .int x4, .int x5, .int x6, .int s0, am_ju, am_ju] [] (zl sn sx, xa c0 T D r ((bd_men b), (bd_held b), (bd_kings b), (bd_side b), (bd_rights b), (bd_passed b), (bd_depth b), (upd (bd_made b) ((bd_depth b)).toNatClampNeg x1), (upd (bd_taken b) ((bd_depth b)).toNatClampNeg ((bd_men b) (s0).toNatClampNeg)), (bd_takenAt b), (bd_rightsBefore b), (bd_passedBefore b)) tl, M, q) c11 (fun _ _ => rfl) ?_
  obtain ⟨c12, hM⟩ := am_ifn hM
  refine am_ev.kc 6 113 [.ref 114, .int x1, .int x2, .int x3, .int x4, .int x5, .int x6, .int s0, am_ju, am_ju] [] (zl sn sx, xa c0 T D r ((bd_men b), (bd_held b), (bd_kings b), (bd_side b), (bd_rights b), (bd_passed b), (bd_depth b), (upd (bd_made b) ((bd_depth b)).toNatClampNeg x1), (upd (bd_taken b) ((bd_depth b)).toNatClampNeg ((bd_men b) (s0).toNatClampNeg)), (upd (bd_takenAt b) ((bd_depth b)).toNatClampNeg s0), (bd_rightsBefore b), (bd_passedBefore b)) tl, M, q) c12 (fun _ _ => rfl) ?_
  obtain ⟨c13, hM⟩ := am_ifn hM
  refine am_ev.kc 7 126 [.ref 114, .int x1, .int x2, .int x3, .int x4, .int x5, .int x6, .int s0, am_ju, am_ju] [] (zl sn sx, xa c0 T D r ((bd_men b), (bd_held b), (bd_kings b), (bd_side b), (bd_rights b), (bd_passed b), (bd_depth b), (upd (bd_made b) ((bd_depth b)).toNatClampNeg x1), (upd (bd_taken b) ((bd_depth b)).toNatClampNeg ((bd_men b) (s0).toNatClampNeg)), (upd (bd_takenAt b) ((bd_depth b)).toNatClampNeg s0), (upd (bd_rightsBefore b) ((bd_depth b)).toNatClampNeg (bd_rights b)), (bd_passedBefore b)) tl, M, q) c13 (fun _ _ => rfl) ?_
  obtain ⟨c14, hM⟩ := am_ifn hM
  refine am_ev.kc 7 139 [.ref 114, .int x1, .int x2, .int x3, .int x4, .int x5, .int x6, .int s0, am_ju, am_ju] [] (zl sn sx, xa c0 T D r ((bd_men b), (bd_held b), (bd_kings b), (bd_side b), (bd_rights b), (bd_passed b), (bd_depth b), (upd (bd_made b) ((bd_depth b)).toNatClampNeg x1), (upd (bd_taken b) ((bd_depth b)).toNatClampNeg ((bd_men b) (s0).toNatClampNeg)), (upd (bd_takenAt b) ((bd_depth b)).toNatClampNeg s0), (upd (bd_rightsBefore b) ((bd_depth b)).toNatClampNeg (bd_rights b)), (upd (bd_passedBefore b) ((bd_depth b)).toNatClampNeg (bd_passed b))) tl, M, q) c14 (fun _ _ => rfl) ?_
  obtain ⟨rr, hc, hM⟩ := am_bind hM
  obtain ⟨bg1, rfl⟩ : ∃ z, z = rr := ⟨_, rfl⟩
  refine am_ev.kg 8 (pc' := 152) (lv' := [.ref 114, .int x1, .int x2, .int x3, .int x4, .int x5, .int x6, .int s0, am_ju, am_ju]) (st' := [.int s0, .ref 114]) (h' := (zl sn sx, xa c0 T D r ((bd_men b), (bd_held b), (bd_kings b), (bd_side b), (bd_rights b), (bd_passed b), ((bd_depth b) + (1 : Int32)), (upd (bd_made b) ((bd_depth b)).toNatClampNeg x1), (upd (bd_taken b) ((bd_depth b)).toNatClampNeg ((bd_men b) (s0).toNatClampNeg)), (upd (bd_takenAt b) ((bd_depth b)).toNatClampNeg s0), (upd (bd_rightsBefore b) ((bd_depth b)).toNatClampNeg (bd_rights b)), (upd (bd_passedBefore b) ((bd_depth b)).toNatClampNeg (bd_passed b))) tl, M, q)) (fun _ _ => rfl) ?_
  refine am_ev.call rfl rfl rfl ((s_Board_lift_B hc).mono (by decide)) ?_
  show am_ev _ k_Board_make (155, [.ref 114, .int x1, .int x2, .int x3, .int x4, .int x5, .int x6, .int s0, am_ju, am_ju], [], (zl sn sx, xa c0 T D r bg1 tl, M, q)) oo
  obtain ⟨rr, hc, hM⟩ := am_bind hM
  obtain ⟨bg2, rfl⟩ : ∃ z, z = rr := ⟨_, rfl⟩
  refine am_ev.kg 2 (pc' := 157) (lv' := [.ref 114, .int x1, .int x2, .int x3, .int x4, .int x5, .int x6, .int s0, am_ju, am_ju]) (st' := [.int x2, .ref 114]) (h' := (zl sn sx, xa c0 T D r bg1 tl, M, q)) (fun _ _ => rfl) ?_
  refine am_ev.call rfl rfl rfl ((s_Board_lift_B hc).mono (by decide)) ?_
  show am_ev _ k_Board_make (160, [.ref 114, .int x1, .int x2, .int x3, .int x4, .int x5, .int x6, .int s0, am_ju, am_ju], [], (zl sn sx, xa c0 T D r bg2 tl, M, q)) oo
  rcases am_if hM with ⟨c15, hM⟩ | ⟨c15, hM⟩
  · refine am_ev.kt 4 172 167 [.ref 114, .int x1, .int x2, .int x3, .int x4, .int x5, .int x6, .int s0, am_ju, am_ju] [.int x3, .ref 114] (zl sn sx, xa c0 T D r bg2 tl, M, q) c15 (fun _ _ => rfl) ?_
    refine am_ev.kg 6 (pc' := 182) (lv' := [.ref 114, .int x1, .int x2, .int x3, .int x4, .int x5, .int x6, .int s0, am_ju, am_ju]) (st' := [.int (x4 + ((8 : Int32) * (bd_side bg2))), .int x3, .ref 114]) (h' := (zl sn sx, xa c0 T D r bg2 tl, M, q)) (fun _ _ => rfl) ?_
    refine am_ev.wk (lv' := [.ref 114, am_ju, .int x2, .int x3, am_ju, .int x5, .int x6, am_ju, am_ju, am_ju]) (am_lc (Or.inr rfl) (am_lc (Or.inl rfl) (am_lc (Or.inr rfl) (am_lc (Or.inr rfl) (am_lc (Or.inl rfl) (am_lc (Or.inr rfl) (am_lc (Or.inr rfl) (am_lc (Or.inl rfl) (am_lc (Or.inr rfl) (am_lc (Or.inr rfl) am_ln)))))))))) ?_
    exact sj_Board_make_B_182 hx hM
  · refine am_ev.ke 4 172 167 [.ref 114, .int x1, .int x2, .int x3, .int x4, .int x5, .int x6, .int s0, am_ju, am_ju] [.int x3, .ref 114] (zl sn sx, xa c0 T D r bg2 tl, M, q) c15 (fun _ _ => rfl) ?_
    refine am_ev.kg 2 (pc' := 182) (lv' := [.ref 114, .int x1, .int x2, .int x3, .int x4, .int x5, .int x6, .int s0, am_ju, am_ju]) (st' := [.int x5, .int x3, .ref 114]) (h' := (zl sn sx, xa c0 T D r bg2 tl, M, q)) (fun _ _ => rfl) ?_
    refine am_ev.wk (lv' := [.ref 114, am_ju, .int x2, .int x3, am_ju, .int x5, .int x6, am_ju, am_ju, am_ju]) (am_lc (Or.inr rfl) (am_lc (Or.inl rfl) (am_lc (Or.inr rfl) (am_lc (Or.inr rfl) (am_lc (Or.inl rfl) (am_lc (Or.inr rfl) (am_lc (Or.inr rfl) (am_lc (Or.inl rfl) (am_lc (Or.inr rfl) (am_lc (Or.inr rfl) am_ln)))))))))) ?_
    exact sj_Board_make_B_182 hx hM
theorem sj_Board_make_B_73 {sn : Nat} {sx : Nat → Int32} {M : List am_C} {q : Nat × Nat} {c0 : am_C} {tl : List am_C} {T : TxT} {D : BdT} {r : RdT} {b : BdT} {x1 : Int32} {x2 : Int32} {x3 : Int32} {x4 : Int32} {x5 : Int32} {x6 : Int32} {oo : am_O} {e : BdT} (hx : y_Board_make_B sn sx M q c0 tl T D r oo e) (hM : j_Board_make_73 b x1 x2 x3 x4 x5 x6 = some e) : am_ev 3 k_Board_make (73, [.ref 114, .int x1, .int x2, .int x3, .int x4, .int x5, .int x6, am_ju, am_ju, am_ju], [], (zl sn sx, xa c0 T D r b tl, M, q)) oo := by
  unfold j_Board_make_73 at hM
  refine am_ev.kg 1 (pc' := 74) (lv' := [.ref 114, .int x1, .int x2, .int x3, .int x4, .int x5, .int x6, am_ju, am_ju, am_ju]) (st' := [.int x3]) (h' := (zl sn sx, xa c0 T D r b tl, M, q)) (fun _ _ => rfl) ?_
  exact sj_Board_make_B_74 hx hM
theorem sj_Board_make_B_51 {sn : Nat} {sx : Nat → Int32} {M : List am_C} {q : Nat × Nat} {c0 : am_C} {tl : List am_C} {T : TxT} {D : BdT} {r : RdT} {b : BdT} {x1 : Int32} {x2 : Int32} {x3 : Int32} {x4 : Int32} {x5 : Int32} {s0 : Int32} {oo : am_O} {e : BdT} (hx : y_Board_make_B sn sx M q c0 tl T D r oo e) (hM : j_Board_make_51 b x1 x2 x3 x4 x5 s0 = some e) : am_ev 3 k_Board_make (51, [.ref 114, .int x1, .int x2, .int x3, .int x4, .int x5, am_ju, am_ju, am_ju, am_ju], [.int s0], (zl sn sx, xa c0 T D r b tl, M, q)) oo := by
  unfold j_Board_make_51 at hM
  rcases am_if hM with ⟨c16, hM⟩ | ⟨c16, hM⟩
  · refine am_ev.kt 3 73 58 [.ref 114, .int x1, .int x2, .int x3, .int x4, .int x5, .int s0, am_ju, am_ju, am_ju] [] (zl sn sx, xa c0 T D r b tl, M, q) c16 (fun _ _ => rfl) ?_
    exact sj_Board_make_B_73 hx hM
  · refine am_ev.ke 3 73 58 [.ref 114, .int x1, .int x2, .int x3, .int x4, .int x5, .int s0, am_ju, am_ju, am_ju] [] (zl sn sx, xa c0 T D r b tl, M, q) c16 (fun _ _ => rfl) ?_
    rcases am_if hM with ⟨c17, hM⟩ | ⟨c17, hM⟩
    · refine am_ev.kt 4 73 66 [.ref 114, .int x1, .int x2, .int x3, .int x4, .int x5, .int s0, am_ju, am_ju, am_ju] [] (zl sn sx, xa c0 T D r b tl, M, q) c17 (fun _ _ => rfl) ?_
      exact sj_Board_make_B_73 hx hM
    · refine am_ev.ke 4 73 66 [.ref 114, .int x1, .int x2, .int x3, .int x4, .int x5, .int s0, am_ju, am_ju, am_ju] [] (zl sn sx, xa c0 T D r b tl, M, q) c17 (fun _ _ => rfl) ?_
      refine am_ev.kg 4 (pc' := 74) (lv' := [.ref 114, .int x1, .int x2, .int x3, .int x4, .int x5, .int s0, am_ju, am_ju, am_ju]) (st' := [.int (x3 ^^^ (8 : Int32))]) (h' := (zl sn sx, xa c0 T D r b tl, M, q)) (fun _ _ => rfl) ?_
      exact sj_Board_make_B_74 hx hM
theorem se_Board_make_B {sn : Nat} {sx : Nat → Int32} {M : List am_C} {q : Nat × Nat} {c0 : am_C} {tl : List am_C} {T : TxT} {D : BdT} {r : RdT} {b : BdT} {x1 : Int32} {oo : am_O} {e : BdT} (hx : y_Board_make_B sn sx M q c0 tl T D r oo e) (hM : f_Board_make x1 b = some e) : am_ev 3 k_Board_make (0, [.ref 114, .int x1, am_ju, am_ju, am_ju, am_ju, am_ju, am_ju, am_ju, am_ju], [], (zl sn sx, xa c0 T D r b tl, M, q)) oo := by
  unfold f_Board_make at hM
  rcases am_if hM with ⟨c18, hM⟩ | ⟨c18, hM⟩
  · refine am_ev.kt 4 10 9 [.ref 114, .int x1, am_ju, am_ju, am_ju, am_ju, am_ju, am_ju, am_ju, am_ju] [] (zl sn sx, xa c0 T D r b tl, M, q) c18 (fun _ _ => rfl) ?_
    obtain ⟨c19, hM⟩ := am_ifn hM
    refine am_ev.kc 18 35 [.ref 114, .int x1, .int (x1 &&& (63 : Int32)), .int ((x1 >>> ((6 : Int32) &&& 31)) &&& (63 : Int32)), .int (x1 >>> ((12 : Int32) &&& 31)), am_ju, am_ju, am_ju, am_ju, am_ju] [.int ((bd_men b) ((x1 &&& (63 : Int32))).toNatClampNeg)] (zl sn sx, xa c0 T D r b tl, M, q) c19 (fun _ _ => rfl) ?_
    rcases am_if hM with ⟨c20, hM⟩ | ⟨c20, hM⟩
    · refine am_ev.kt 6 50 46 [.ref 114, .int x1, .int (x1 &&& (63 : Int32)), .int ((x1 >>> ((6 : Int32) &&& 31)) &&& (63 : Int32)), .int (x1 >>> ((12 : Int32) &&& 31)), .int ((bd_men b) ((x1 &&& (63 : Int32))).toNatClampNeg), am_ju, am_ju, am_ju, am_ju] [] (zl sn sx, xa c0 T D r b tl, M, q) c20 (fun _ _ => rfl) ?_
      refine am_ev.kg 1 (pc' := 51) (lv' := [.ref 114, .int x1, .int (x1 &&& (63 : Int32)), .int ((x1 >>> ((6 : Int32) &&& 31)) &&& (63 : Int32)), .int (x1 >>> ((12 : Int32) &&& 31)), .int ((bd_men b) ((x1 &&& (63 : Int32))).toNatClampNeg), am_ju, am_ju, am_ju, am_ju]) (st' := [.int (0 : Int32)]) (h' := (zl sn sx, xa c0 T D r b tl, M, q)) (fun _ _ => rfl) ?_
      exact sj_Board_make_B_51 hx hM
    · refine am_ev.ke 6 50 46 [.ref 114, .int x1, .int (x1 &&& (63 : Int32)), .int ((x1 >>> ((6 : Int32) &&& 31)) &&& (63 : Int32)), .int (x1 >>> ((12 : Int32) &&& 31)), .int ((bd_men b) ((x1 &&& (63 : Int32))).toNatClampNeg), am_ju, am_ju, am_ju, am_ju] [] (zl sn sx, xa c0 T D r b tl, M, q) c20 (fun _ _ => rfl) ?_
      refine am_ev.kg 2 (pc' := 51) (lv' := [.ref 114, .int x1, .int (x1 &&& (63 : Int32)), .int ((x1 >>> ((6 : Int32) &&& 31)) &&& (63 : Int32)), .int (x1 >>> ((12 : Int32) &&& 31)), .int ((bd_men b) ((x1 &&& (63 : Int32))).toNatClampNeg), am_ju, am_ju, am_ju, am_ju]) (st' := [.int (1 : Int32)]) (h' := (zl sn sx, xa c0 T D r b tl, M, q)) (fun _ _ => rfl) ?_
      exact sj_Board_make_B_51 hx hM
  · refine am_ev.ke 4 10 9 [.ref 114, .int x1, am_ju, am_ju, am_ju, am_ju, am_ju, am_ju, am_ju, am_ju] [] (zl sn sx, xa c0 T D r b tl, M, q) c18 (fun _ _ => rfl) ?_
    cases hM
    cases hx
    exact am_ev.kf 1 (fun _ _ => rfl)
theorem s_Board_make_B {sn : Nat} {sx : Nat → Int32} {M : List am_C} {q : Nat × Nat} {c0 : am_C} {tl : List am_C} {T : TxT} {D : BdT} {r : RdT} {b : BdT} {x1 : Int32} {ob : BdT} (hM : f_Board_make x1 b = some ob) : am_cv 4 k_Board_make [.ref 114, .int x1] (zl sn sx, xa c0 T D r b tl, M, q) (.inl none, (zl sn sx, xa c0 T D r ob tl, M, q)) := am_cv.of rfl (se_Board_make_B (e := ob) (show y_Board_make_B sn sx M q c0 tl T D r _ ob from rfl) hM)
def y_Board_attacked_B (sn : Nat) (sx : Nat → Int32) (M : List am_C) (q : Nat × Nat) (c0 : am_C) (tl : List am_C) (T : TxT) (D : BdT) (r : RdT) (b : BdT) (oo : am_O) : Int32 → Prop
  | ov => oo = (.inl (some (.int ov)), (zl sn sx, xa c0 T D r b tl, M, q))
def x_Board_attacked_B_75 (sn : Nat) (sx : Nat → Int32) (M : List am_C) (q : Nat × Nat) (c0 : am_C) (tl : List am_C) (T : TxT) (D : BdT) (r : RdT) (b : BdT) (x1 : Int32) (x2 : Int32) (x3 : Int32) (oo : am_O) : (Int32 × Int32) ⊕ (Unit) → Prop
  | (.inl (x5, x6)) => am_ev 1 k_Board_attacked (101, [.ref 114, .int x1, .int x2, .int x3, am_ju, .int x5, .int x6, am_ju], [], (zl sn sx, xa c0 T D r b tl, M, q)) oo
  | (.inr ()) => am_ev 1 k_Board_attacked (162, [.ref 114, .int x1, .int x2, .int x3, am_ju, am_ju, am_ju, am_ju], [], (zl sn sx, xa c0 T D r b tl, M, q)) oo
def x_Board_attacked_B_3 (sn : Nat) (sx : Nat → Int32) (M : List am_C) (q : Nat × Nat) (c0 : am_C) (tl : List am_C) (T : TxT) (D : BdT) (r : RdT) (b : BdT) (x1 : Int32) (x2 : Int32) (oo : am_O) : ((Unit)) ⊕ (Int32) → Prop
  | (.inl ()) => am_ev 1 k_Board_attacked (51, [.ref 114, .int x1, .int x2, am_ju, am_ju, am_ju, am_ju, am_ju], [], (zl sn sx, xa c0 T D r b tl, M, q)) oo
  | .inr ov => oo = (.inl (some (.int ov)), (zl sn sx, xa c0 T D r b tl, M, q))
def x_Board_attacked_B_53 (sn : Nat) (sx : Nat → Int32) (M : List am_C) (q : Nat × Nat) (c0 : am_C) (tl : List am_C) (T : TxT) (D : BdT) (r : RdT) (b : BdT) (x1 : Int32) (x2 : Int32) (oo : am_O) : Int32 → Prop
  | ov => oo = (.inl (some (.int ov)), (zl sn sx, xa c0 T D r b tl, M, q))
theorem sj_Board_attacked_B_45 {fu : Nat} {sn : Nat} {sx : Nat → Int32} {M : List am_C} {q : Nat × Nat} {c0 : am_C} {tl : List am_C} {T : TxT} {D : BdT} {r : RdT} {b : BdT} {x1 : Int32} {x2 : Int32} {x3 : Int32} {oo : am_O} {e : ((Unit)) ⊕ (Int32)} {gg : Int32 → Option (((Unit)) ⊕ (Int32))} (hx : x_Board_attacked_B_3 sn sx M q c0 tl T D r b x1 x2 oo e) (hg : ∀ (x3 : Int32), gg x3 = some e → am_ev 1 k_Board_attacked (3, [.ref 114, .int x1, .int x2, .int x3, am_ju, am_ju, am_ju, am_ju], [], (zl sn sx, xa c0 T D r b tl, M, q)) oo) (hM : j_Board_attacked_45 fu gg b x1 x2 x3 = some e) : am_ev 1 k_Board_attacked (45, [.ref 114, .int x1, .int x2, .int x3, am_ju, am_ju, am_ju, am_ju], [], (zl sn sx, xa c0 T D r b tl, M, q)) oo := by
  unfold j_Board_attacked_45 at hM
  refine am_ev.kg 2 (pc' := 3) (lv' := [.ref 114, .int x1, .int x2, .int (x3 + (1 : Int32)), am_ju, am_ju, am_ju, am_ju]) (st' := []) (h' := (zl sn sx, xa c0 T D r b tl, M, q)) (fun _ _ => rfl) ?_
  exact hg _ hM
theorem sb_Board_attacked_B_75 {fu : Nat} {sn : Nat} {sx : Nat → Int32} {M : List am_C} {q : Nat × Nat} {c0 : am_C} {tl : List am_C} {T : TxT} {D : BdT} {r : RdT} {b : BdT} {x1 : Int32} {x2 : Int32} {x3 : Int32} {oo : am_O} {e : (Int32 × Int32) ⊕ (Unit)} {gg : Int32 → Int32 → Option ((Int32 × Int32) ⊕ (Unit))} (hx : x_Board_attacked_B_75 sn sx M q c0 tl T D r b x1 x2 x3 oo e) (hg : ∀ (x4 : Int32) (x5 : Int32), gg x4 x5 = some e → am_ev 1 k_Board_attacked (75, [.ref 114, .int x1, .int x2, .int x3, .int x4, .int x5, am_ju, am_ju], [], (zl sn sx, xa c0 T D r b tl, M, q)) oo) {x4 : Int32} {x5 : Int32} (hM : b_Board_attacked_75 fu b x1 x2 x3 gg x4 x5 = some e) : am_ev 1 k_Board_attacked (75, [.ref 114, .int x1, .int x2, .int x3, .int x4, .int x5, am_ju, am_ju], [], (zl sn sx, xa c0 T D r b tl, M, q)) oo := by
  unfold b_Board_attacked_75 at hM
  rcases am_if hM with ⟨c1, hM⟩ | ⟨c1, hM⟩
  · refine am_ev.kt 3 162 82 [.ref 114, .int x1, .int x2, .int x3, .int x4, .int x5, am_ju, am_ju] [] (zl sn sx, xa c0 T D r b tl, M, q) c1 (fun _ _ => rfl) ?_
    refine am_ev.wk (lv' := [.ref 114, .int x1, .int x2, .int x3, am_ju, am_ju, am_ju, am_ju]) (am_lc (Or.inr rfl) (am_lc (Or.inr rfl) (am_lc (Or.inr rfl) (am_lc (Or.inr rfl) (am_lc (Or.inl rfl) (am_lc (Or.inl rfl) (am_lc (Or.inr rfl) (am_lc (Or.inr rfl) am_ln)))))))) ?_
    cases hM
    exact hx
  · refine am_ev.ke 3 162 82 [.ref 114, .int x1, .int x2, .int x3, .int x4, .int x5, am_ju, am_ju] [] (zl sn sx, xa c0 T D r b tl, M, q) c1 (fun _ _ => rfl) ?_
    rcases am_if hM with ⟨c2, hM⟩ | ⟨c2, hM⟩
    · refine am_ev.kt 2 162 87 [.ref 114, .int x1, .int x2, .int x3, .int x4, .int x5, am_ju, am_ju] [] (zl sn sx, xa c0 T D r b tl, M, q) c2 (fun _ _ => rfl) ?_
      refine am_ev.wk (lv' := [.ref 114, .int x1, .int x2, .int x3, am_ju, am_ju, am_ju, am_ju]) (am_lc (Or.inr rfl) (am_lc (Or.inr rfl) (am_lc (Or.inr rfl) (am_lc (Or.inr rfl) (am_lc (Or.inl rfl) (am_lc (Or.inl rfl) (am_lc (Or.inr rfl) (am_lc (Or.inr rfl) am_ln)))))))) ?_
      cases hM
      exact hx
    · refine am_ev.ke 2 162 87 [.ref 114, .int x1, .int x2, .int x3, .int x4, .int x5, am_ju, am_ju] [] (zl sn sx, xa c0 T D r b tl, M, q) c2 (fun _ _ => rfl) ?_
      obtain ⟨c3, hM⟩ := am_ifn hM
      refine am_ev.kc 4 94 [.ref 114, .int x1, .int x2, .int x3, .int x4, .int x5, am_ju, am_ju] [.int ((bd_men b) (x4).toNatClampNeg)] (zl sn sx, xa c0 T D r b tl, M, q) c3 (fun _ _ => rfl) ?_
      rcases am_if hM with ⟨c4, hM⟩ | ⟨c4, hM⟩
      · refine am_ev.kt 3 142 101 [.ref 114, .int x1, .int x2, .int x3, .int x4, .int x5, .int ((bd_men b) (x4).toNatClampNeg), am_ju] [] (zl sn sx, xa c0 T D r b tl, M, q) c4 (fun _ _ => rfl) ?_
        obtain ⟨c5, hM⟩ := am_ifn hM
        refine am_ev.kc 8 154 [.ref 114, .int x1, .int x2, .int x3, .int x4, .int x5, .int ((bd_men b) (x4).toNatClampNeg), am_ju] [.int (tb_next ((((64 : Int32) * x3) + x4)).toNatClampNeg)] (zl sn sx, xa c0 T D r b tl, M, q) c5 (fun _ _ => rfl) ?_
        refine am_ev.kg 3 (pc' := 75) (lv' := [.ref 114, .int x1, .int x2, .int x3, .int (tb_next ((((64 : Int32) * x3) + x4)).toNatClampNeg), .int (x5 + (1 : Int32)), .int ((bd_men b) (x4).toNatClampNeg), am_ju]) (st' := []) (h' := (zl sn sx, xa c0 T D r b tl, M, q)) (fun _ _ => rfl) ?_
        refine am_ev.wk (lv' := [.ref 114, .int x1, .int x2, .int x3, .int (tb_next ((((64 : Int32) * x3) + x4)).toNatClampNeg), .int (x5 + (1 : Int32)), am_ju, am_ju]) (am_lc (Or.inr rfl) (am_lc (Or.inr rfl) (am_lc (Or.inr rfl) (am_lc (Or.inr rfl) (am_lc (Or.inr rfl) (am_lc (Or.inr rfl) (am_lc (Or.inl rfl) (am_lc (Or.inr rfl) am_ln)))))))) ?_
        exact hg _ _ hM
      · refine am_ev.ke 3 142 101 [.ref 114, .int x1, .int x2, .int x3, .int x4, .int x5, .int ((bd_men b) (x4).toNatClampNeg), am_ju] [] (zl sn sx, xa c0 T D r b tl, M, q) c4 (fun _ _ => rfl) ?_
        refine am_ev.wk (lv' := [.ref 114, .int x1, .int x2, .int x3, am_ju, .int x5, .int ((bd_men b) (x4).toNatClampNeg), am_ju]) (am_lc (Or.inr rfl) (am_lc (Or.inr rfl) (am_lc (Or.inr rfl) (am_lc (Or.inr rfl) (am_lc (Or.inl rfl) (am_lc (Or.inr rfl) (am_lc (Or.inr rfl) (am_lc (Or.inr rfl) am_ln)))))))) ?_
        cases hM
        exact hx
theorem sl_Board_attacked_B_75 {fu : Nat} {sn : Nat} {sx : Nat → Int32} {M : List am_C} {q : Nat × Nat} {c0 : am_C} {tl : List am_C} {T : TxT} {D : BdT} {r : RdT} {b : BdT} {x1 : Int32} {x2 : Int32} {x3 : Int32} {oo : am_O} {e : (Int32 × Int32) ⊕ (Unit)} (hx : x_Board_attacked_B_75 sn sx M q c0 tl T D r b x1 x2 x3 oo e) : ∀ (n : Nat) (x4 : Int32) (x5 : Int32), l_Board_attacked_75 fu b x1 x2 x3 n x4 x5 = some e → am_ev 1 k_Board_attacked (75, [.ref 114, .int x1, .int x2, .int x3, .int x4, .int x5, am_ju, am_ju], [], (zl sn sx, xa c0 T D r b tl, M, q)) oo
  | 0, _, _, hM => by have h : (none : Option ((Int32 × Int32) ⊕ (Unit))) = some e := hM; cases h
  | n + 1, _, _, hM => sb_Board_attacked_B_75 hx (fun _ _ hM => sl_Board_attacked_B_75 hx n _ _ hM) hM
theorem sj_Board_attacked_B_162 {fu : Nat} {sn : Nat} {sx : Nat → Int32} {M : List am_C} {q : Nat × Nat} {c0 : am_C} {tl : List am_C} {T : TxT} {D : BdT} {r : RdT} {b : BdT} {x1 : Int32} {x2 : Int32} {x3 : Int32} {oo : am_O} {e : Int32} {gg : Int32 → Option (Int32)} (hx : x_Board_attacked_B_53 sn sx M q c0 tl T D r b x1 x2 oo e) (hg : ∀ (x3 : Int32), gg x3 = some e → am_ev 1 k_Board_attacked (53, [.ref 114, .int x1, .int x2, .int x3, am_ju, am_ju, am_ju, am_ju], [], (zl sn sx, xa c0 T D r b tl, M, q)) oo) (hM : j_Board_attacked_162 fu gg b x1 x2 x3 = some e) : am_ev 1 k_Board_attacked (162, [.ref 114, .int x1, .int x2, .int x3, am_ju, am_ju, am_ju, am_ju], [], (zl sn sx, xa c0 T D r b tl, M, q)) oo := by
  unfold j_Board_attacked_162 at hM
  refine am_ev.kg 2 (pc' := 53) (lv' := [.ref 114, .int x1, .int x2, .int (x3 + (1 : Int32)), am_ju, am_ju, am_ju, am_ju]) (st' := []) (h' := (zl sn sx, xa c0 T D r b tl, M, q)) (fun _ _ => rfl) ?_
  exact hg _ hM
theorem sj_Board_attacked_B_121 {fu : Nat} {sn : Nat} {sx : Nat → Int32} {M : List am_C} {q : Nat × Nat} {c0 : am_C} {tl : List am_C} {T : TxT} {D : BdT} {r : RdT} {b : BdT} {x1 : Int32} {x2 : Int32} {x3 : Int32} {x6 : Int32} {s0 : Int32} {oo : am_O} {e : Int32} {gg : Int32 → Option (Int32)} (hx : x_Board_attacked_B_53 sn sx M q c0 tl T D r b x1 x2 oo e) (hg : ∀ (x3 : Int32), gg x3 = some e → am_ev 1 k_Board_attacked (53, [.ref 114, .int x1, .int x2, .int x3, am_ju, am_ju, am_ju, am_ju], [], (zl sn sx, xa c0 T D r b tl, M, q)) oo) (hM : j_Board_attacked_121 fu gg b x1 x2 x3 x6 s0 = some e) : am_ev 1 k_Board_attacked (121, [.ref 114, .int x1, .int x2, .int x3, am_ju, am_ju, .int x6, am_ju], [.int s0], (zl sn sx, xa c0 T D r b tl, M, q)) oo := by
  unfold j_Board_attacked_121 at hM
  rcases am_if hM with ⟨c6, hM⟩ | ⟨c6, hM⟩
  · refine am_ev.kt 6 162 131 [.ref 114, .int x1, .int x2, .int x3, am_ju, am_ju, .int x6, .int s0] [] (zl sn sx, xa c0 T D r b tl, M, q) c6 (fun _ _ => rfl) ?_
    refine am_ev.wk (lv' := [.ref 114, .int x1, .int x2, .int x3, am_ju, am_ju, am_ju, am_ju]) (am_lc (Or.inr rfl) (am_lc (Or.inr rfl) (am_lc (Or.inr rfl) (am_lc (Or.inr rfl) (am_lc (Or.inr rfl) (am_lc (Or.inr rfl) (am_lc (Or.inl rfl) (am_lc (Or.inl rfl) am_ln)))))))) ?_
    exact sj_Board_attacked_B_162 hx hg hM
  · refine am_ev.ke 6 162 131 [.ref 114, .int x1, .int x2, .int x3, am_ju, am_ju, .int x6, .int s0] [] (zl sn sx, xa c0 T D r b tl, M, q) c6 (fun _ _ => rfl) ?_
    rcases am_if hM with ⟨c7, hM⟩ | ⟨c7, hM⟩
    · refine am_ev.kt 6 162 140 [.ref 114, .int x1, .int x2, .int x3, am_ju, am_ju, .int x6, .int s0] [] (zl sn sx, xa c0 T D r b tl, M, q) c7 (fun _ _ => rfl) ?_
      refine am_ev.wk (lv' := [.ref 114, .int x1, .int x2, .int x3, am_ju, am_ju, am_ju, am_ju]) (am_lc (Or.inr rfl) (am_lc (Or.inr rfl) (am_lc (Or.inr rfl) (am_lc (Or.inr rfl) (am_lc (Or.inr rfl) (am_lc (Or.inr rfl) (am_lc (Or.inl rfl) (am_lc (Or.inl rfl) am_ln)))))))) ?_
      exact sj_Board_attacked_B_162 hx hg hM
    · refine am_ev.ke 6 162 140 [.ref 114, .int x1, .int x2, .int x3, am_ju, am_ju, .int x6, .int s0] [] (zl sn sx, xa c0 T D r b tl, M, q) c7 (fun _ _ => rfl) ?_
      cases hM
      cases hx
      exact am_ev.kf 2 (fun _ _ => rfl)
theorem sb_Board_attacked_B_3 {fu : Nat} {sn : Nat} {sx : Nat → Int32} {M : List am_C} {q : Nat × Nat} {c0 : am_C} {tl : List am_C} {T : TxT} {D : BdT} {r : RdT} {b : BdT} {x1 : Int32} {x2 : Int32} {oo : am_O} {e : ((Unit)) ⊕ (Int32)} {gg : Int32 → Option (((Unit)) ⊕ (Int32))} (hx : x_Board_attacked_B_3 sn sx M q c0 tl T D r b x1 x2 oo e) (hg : ∀ (x3 : Int32), gg x3 = some e → am_ev 1 k_Board_attacked (3, [.ref 114, .int x1, .int x2, .int x3, am_ju, am_ju, am_ju, am_ju], [], (zl sn sx, xa c0 T D r b tl, M, q)) oo) {x3 : Int32} (hM : b_Board_attacked_3 fu b x1 x2 gg x3 = some e) : am_ev 1 k_Board_attacked (3, [.ref 114, .int x1, .int x2, .int x3, am_ju, am_ju, am_ju, am_ju], [], (zl sn sx, xa c0 T D r b tl, M, q)) oo := by
  unfold b_Board_attacked_3 at hM
  rcases am_if hM with ⟨c8, hM⟩ | ⟨c8, hM⟩
  · refine am_ev.kt 3 51 9 [.ref 114, .int x1, .int x2, .int x3, am_ju, am_ju, am_ju, am_ju] [] (zl sn sx, xa c0 T D r b tl, M, q) c8 (fun _ _ => rfl) ?_
    refine am_ev.wk (lv' := [.ref 114, .int x1, .int x2, am_ju, am_ju, am_ju, am_ju, am_ju]) (am_lc (Or.inr rfl) (am_lc (Or.inr rfl) (am_lc (Or.inr rfl) (am_lc (Or.inl rfl) (am_lc (Or.inr rfl) (am_lc (Or.inr rfl) (am_lc (Or.inr rfl) (am_lc (Or.inr rfl) am_ln)))))))) ?_
    cases hM
    exact hx
  · refine am_ev.ke 3 51 9 [.ref 114, .int x1, .int x2, .int x3, am_ju, am_ju, am_ju, am_ju] [] (zl sn sx, xa c0 T D r b tl, M, q) c8 (fun _ _ => rfl) ?_
    obtain ⟨c9, hM⟩ := am_ifn hM
    refine am_ev.kc 8 20 [.ref 114, .int x1, .int x2, .int x3, am_ju, am_ju, am_ju, am_ju] [.int (tb_next ((((64 : Int32) * x3) + x1)).toNatClampNeg)] (zl sn sx, xa c0 T D r b tl, M, q) c9 (fun _ _ => rfl) ?_
    rcases am_if hM with ⟨c10, hM⟩ | ⟨c10, hM⟩
    · refine am_ev.kt 3 45 27 [.ref 114, .int x1, .int x2, .int x3, .int (tb_next ((((64 : Int32) * x3) + x1)).toNatClampNeg), am_ju, am_ju, am_ju] [] (zl sn sx, xa c0 T D r b tl, M, q) c10 (fun _ _ => rfl) ?_
      refine am_ev.wk (lv' := [.ref 114, .int x1, .int x2, .int x3, am_ju, am_ju, am_ju, am_ju]) (am_lc (Or.inr rfl) (am_lc (Or.inr rfl) (am_lc (Or.inr rfl) (am_lc (Or.inr rfl) (am_lc (Or.inl rfl) (am_lc (Or.inr rfl) (am_lc (Or.inr rfl) (am_lc (Or.inr rfl) am_ln)))))))) ?_
      exact sj_Board_attacked_B_45 hx hg hM
    · refine am_ev.ke 3 45 27 [.ref 114, .int x1, .int x2, .int x3, .int (tb_next ((((64 : Int32) * x3) + x1)).toNatClampNeg), am_ju, am_ju, am_ju] [] (zl sn sx, xa c0 T D r b tl, M, q) c10 (fun _ _ => rfl) ?_
      obtain ⟨c11, hM⟩ := am_ifn hM
      refine am_ev.kc 4 34 [.ref 114, .int x1, .int x2, .int x3, .int (tb_next ((((64 : Int32) * x3) + x1)).toNatClampNeg), am_ju, am_ju, am_ju] [.int ((bd_men b) ((tb_next ((((64 : Int32) * x3) + x1)).toNatClampNeg)).toNatClampNeg)] (zl sn sx, xa c0 T D r b tl, M, q) c11 (fun _ _ => rfl) ?_
      rcases am_if hM with ⟨c12, hM⟩ | ⟨c12, hM⟩
      · refine am_ev.kt 6 45 43 [.ref 114, .int x1, .int x2, .int x3, .int (tb_next ((((64 : Int32) * x3) + x1)).toNatClampNeg), am_ju, am_ju, am_ju] [] (zl sn sx, xa c0 T D r b tl, M, q) c12 (fun _ _ => rfl) ?_
        refine am_ev.wk (lv' := [.ref 114, .int x1, .int x2, .int x3, am_ju, am_ju, am_ju, am_ju]) (am_lc (Or.inr rfl) (am_lc (Or.inr rfl) (am_lc (Or.inr rfl) (am_lc (Or.inr rfl) (am_lc (Or.inl rfl) (am_lc (Or.inr rfl) (am_lc (Or.inr rfl) (am_lc (Or.inr rfl) am_ln)))))))) ?_
        exact sj_Board_attacked_B_45 hx hg hM
      · refine am_ev.ke 6 45 43 [.ref 114, .int x1, .int x2, .int x3, .int (tb_next ((((64 : Int32) * x3) + x1)).toNatClampNeg), am_ju, am_ju, am_ju] [] (zl sn sx, xa c0 T D r b tl, M, q) c12 (fun _ _ => rfl) ?_
        cases hM
        cases hx
        exact am_ev.kf 2 (fun _ _ => rfl)
theorem sl_Board_attacked_B_3 {fu : Nat} {sn : Nat} {sx : Nat → Int32} {M : List am_C} {q : Nat × Nat} {c0 : am_C} {tl : List am_C} {T : TxT} {D : BdT} {r : RdT} {b : BdT} {x1 : Int32} {x2 : Int32} {oo : am_O} {e : ((Unit)) ⊕ (Int32)} (hx : x_Board_attacked_B_3 sn sx M q c0 tl T D r b x1 x2 oo e) : ∀ (n : Nat) (x3 : Int32), l_Board_attacked_3 fu b x1 x2 n x3 = some e → am_ev 1 k_Board_attacked (3, [.ref 114, .int x1, .int x2, .int x3, am_ju, am_ju, am_ju, am_ju], [], (zl sn sx, xa c0 T D r b tl, M, q)) oo
  | 0, _, hM => by have h : (none : Option (((Unit)) ⊕ (Int32))) = some e := hM; cases h
  | n + 1, _, hM => sb_Board_attacked_B_3 hx (fun _ hM => sl_Board_attacked_B_3 hx n _ hM) hM
theorem sj_Board_attacked_B_101 {fu : Nat} {sn : Nat} {sx : Nat → Int32} {M : List am_C} {q : Nat × Nat} {c0 : am_C} {tl : List am_C} {T : TxT} {D : BdT} {r : RdT} {b : BdT} {x1 : Int32} {x2 : Int32} {x3 : Int32} {x5 : Int32} {x6 : Int32} {oo : am_O} {e : Int32} {gg : Int32 → Option (Int32)} (hx : x_Board_attacked_B_53 sn sx M q c0 tl T D r b x1 x2 oo e) (hg : ∀ (x3 : Int32), gg x3 = some e → am_ev 1 k_Board_attacked (53, [.ref 114, .int x1, .int x2, .int x3, am_ju, am_ju, am_ju, am_ju], [], (zl sn sx, xa c0 T D r b tl, M, q)) oo) (hM : j_Board_attacked_101 fu gg b x1 x2 x3 x5 x6 = some e) : am_ev 1 k_Board_attacked (101, [.ref 114, .int x1, .int x2, .int x3, am_ju, .int x5, .int x6, am_ju], [], (zl sn sx, xa c0 T D r b tl, M, q)) oo := by
  unfold j_Board_attacked_101 at hM
  rcases am_if hM with ⟨c13, hM⟩ | ⟨c13, hM⟩
  · refine am_ev.kt 2 115 106 [.ref 114, .int x1, .int x2, .int x3, am_ju, .int x5, .int x6, am_ju] [] (zl sn sx, xa c0 T D r b tl, M, q) c13 (fun _ _ => rfl) ?_
    obtain ⟨c14, hM⟩ := am_ifn hM
    refine am_ev.kc 3 121 [.ref 114, .int x1, .int x2, .int x3, am_ju, .int x5, .int x6, am_ju] [.int (tb_FAR (x6).toNatClampNeg)] (zl sn sx, xa c0 T D r b tl, M, q) c14 (fun _ _ => rfl) ?_
    refine am_ev.wk (lv' := [.ref 114, .int x1, .int x2, .int x3, am_ju, am_ju, .int x6, am_ju]) (am_lc (Or.inr rfl) (am_lc (Or.inr rfl) (am_lc (Or.inr rfl) (am_lc (Or.inr rfl) (am_lc (Or.inr rfl) (am_lc (Or.inl rfl) (am_lc (Or.inr rfl) (am_lc (Or.inr rfl) am_ln)))))))) ?_
    exact sj_Board_attacked_B_121 hx hg hM
  · refine am_ev.ke 2 115 106 [.ref 114, .int x1, .int x2, .int x3, am_ju, .int x5, .int x6, am_ju] [] (zl sn sx, xa c0 T D r b tl, M, q) c13 (fun _ _ => rfl) ?_
    obtain ⟨c15, hM⟩ := am_ifn hM
    refine am_ev.kc 3 112 [.ref 114, .int x1, .int x2, .int x3, am_ju, .int x5, .int x6, am_ju] [.int (tb_NEAR (x6).toNatClampNeg)] (zl sn sx, xa c0 T D r b tl, M, q) c15 (fun _ _ => rfl) ?_
    refine am_ev.kg 1 (pc' := 121) (lv' := [.ref 114, .int x1, .int x2, .int x3, am_ju, .int x5, .int x6, am_ju]) (st' := [.int (tb_NEAR (x6).toNatClampNeg)]) (h' := (zl sn sx, xa c0 T D r b tl, M, q)) (fun _ _ => rfl) ?_
    refine am_ev.wk (lv' := [.ref 114, .int x1, .int x2, .int x3, am_ju, am_ju, .int x6, am_ju]) (am_lc (Or.inr rfl) (am_lc (Or.inr rfl) (am_lc (Or.inr rfl) (am_lc (Or.inr rfl) (am_lc (Or.inr rfl) (am_lc (Or.inl rfl) (am_lc (Or.inr rfl) (am_lc (Or.inr rfl) am_ln)))))))) ?_
    exact sj_Board_attacked_B_121 hx hg hM
theorem sb_Board_attacked_B_53 {fu : Nat} {sn : Nat} {sx : Nat → Int32} {M : List am_C} {q : Nat × Nat} {c0 : am_C} {tl : List am_C} {T : TxT} {D : BdT} {r : RdT} {b : BdT} {x1 : Int32} {x2 : Int32} {oo : am_O} {e : Int32} {gg : Int32 → Option (Int32)} (hx : x_Board_attacked_B_53 sn sx M q c0 tl T D r b x1 x2 oo e) (hg : ∀ (x3 : Int32), gg x3 = some e → am_ev 1 k_Board_attacked (53, [.ref 114, .int x1, .int x2, .int x3, am_ju, am_ju, am_ju, am_ju], [], (zl sn sx, xa c0 T D r b tl, M, q)) oo) {x3 : Int32} (hM : b_Board_attacked_53 fu b x1 x2 gg x3 = some e) : am_ev 1 k_Board_attacked (53, [.ref 114, .int x1, .int x2, .int x3, am_ju, am_ju, am_ju, am_ju], [], (zl sn sx, xa c0 T D r b tl, M, q)) oo := by
  unfold b_Board_attacked_53 at hM
  rcases am_if hM with ⟨c16, hM⟩ | ⟨c16, hM⟩
  · refine am_ev.kt 3 168 59 [.ref 114, .int x1, .int x2, .int x3, am_ju, am_ju, am_ju, am_ju] [] (zl sn sx, xa c0 T D r b tl, M, q) c16 (fun _ _ => rfl) ?_
    cases hM
    cases hx
    exact am_ev.kf 2 (fun _ _ => rfl)
  · refine am_ev.ke 3 168 59 [.ref 114, .int x1, .int x2, .int x3, am_ju, am_ju, am_ju, am_ju] [] (zl sn sx, xa c0 T D r b tl, M, q) c16 (fun _ _ => rfl) ?_
    obtain ⟨c17, hM⟩ := am_ifn hM
    refine am_ev.kc 8 70 [.ref 114, .int x1, .int x2, .int x3, am_ju, am_ju, am_ju, am_ju] [.int (tb_next ((((64 : Int32) * x3) + x1)).toNatClampNeg)] (zl sn sx, xa c0 T D r b tl, M, q) c17 (fun _ _ => rfl) ?_
    refine am_ev.kg 3 (pc' := 75) (lv' := [.ref 114, .int x1, .int x2, .int x3, .int (tb_next ((((64 : Int32) * x3) + x1)).toNatClampNeg), .int (0 : Int32), am_ju, am_ju]) (st' := []) (h' := (zl sn sx, xa c0 T D r b tl, M, q)) (fun _ _ => rfl) ?_
    obtain ⟨z, hz, hM⟩ := am_bind hM
    rcases z with z | z
    ·
      obtain ⟨x5_1, x6_1⟩ := z
      refine sl_Board_attacked_B_75 ?_ _ _ _ hz
      show am_ev 1 k_Board_attacked (101, [.ref 114, .int x1, .int x2, .int x3, am_ju, .int x5_1, .int x6_1, am_ju], [], (zl sn sx, xa c0 T D r b tl, M, q)) oo
      exact sj_Board_attacked_B_101 hx hg hM
    ·
      refine sl_Board_attacked_B_75 ?_ _ _ _ hz
      show am_ev 1 k_Board_attacked (162, [.ref 114, .int x1, .int x2, .int x3, am_ju, am_ju, am_ju, am_ju], [], (zl sn sx, xa c0 T D r b tl, M, q)) oo
      exact sj_Board_attacked_B_162 hx hg hM
theorem sl_Board_attacked_B_53 {fu : Nat} {sn : Nat} {sx : Nat → Int32} {M : List am_C} {q : Nat × Nat} {c0 : am_C} {tl : List am_C} {T : TxT} {D : BdT} {r : RdT} {b : BdT} {x1 : Int32} {x2 : Int32} {oo : am_O} {e : Int32} (hx : x_Board_attacked_B_53 sn sx M q c0 tl T D r b x1 x2 oo e) : ∀ (n : Nat) (x3 : Int32), l_Board_attacked_53 fu b x1 x2 n x3 = some e → am_ev 1 k_Board_attacked (53, [.ref 114, .int x1, .int x2, .int x3, am_ju, am_ju, am_ju, am_ju], [], (zl sn sx, xa c0 T D r b tl, M, q)) oo
  | 0, _, hM => by have h : (none : Option (Int32)) = some e := hM; cases h
  | n + 1, _, hM => sb_Board_attacked_B_53 hx (fun _ hM => sl_Board_attacked_B_53 hx n _ hM) hM
theorem sj_Board_attacked_B_51 {fu : Nat} {sn : Nat} {sx : Nat → Int32} {M : List am_C} {q : Nat × Nat} {c0 : am_C} {tl : List am_C} {T : TxT} {D : BdT} {r : RdT} {b : BdT} {x1 : Int32} {x2 : Int32} {oo : am_O} {e : Int32} (hx : y_Board_attacked_B sn sx M q c0 tl T D r b oo e) (hM : j_Board_attacked_51 fu b x1 x2 = some e) : am_ev 1 k_Board_attacked (51, [.ref 114, .int x1, .int x2, am_ju, am_ju, am_ju, am_ju, am_ju], [], (zl sn sx, xa c0 T D r b tl, M, q)) oo := by
  unfold j_Board_attacked_51 at hM
  refine am_ev.kg 2 (pc' := 53) (lv' := [.ref 114, .int x1, .int x2, .int (0 : Int32), am_ju, am_ju, am_ju, am_ju]) (st' := []) (h' := (zl sn sx, xa c0 T D r b tl, M, q)) (fun _ _ => rfl) ?_
  refine sl_Board_attacked_B_53 ?_ _ _ hM
  exact hx
theorem se_Board_attacked_B {fu : Nat} {sn : Nat} {sx : Nat → Int32} {M : List am_C} {q : Nat × Nat} {c0 : am_C} {tl : List am_C} {T : TxT} {D : BdT} {r : RdT} {b : BdT} {x1 : Int32} {x2 : Int32} {oo : am_O} {e : Int32} (hx : y_Board_attacked_B sn sx M q c0 tl T D r b oo e) (hM : f_Board_attacked fu x1 x2 b = some e) : am_ev 1 k_Board_attacked (0, [.ref 114, .int x1, .int x2, am_ju, am_ju, am_ju, am_ju, am_ju], [], (zl sn sx, xa c0 T D r b tl, M, q)) oo := by
  unfold f_Board_attacked at hM
  refine am_ev.kg 2 (pc' := 3) (lv' := [.ref 114, .int x1, .int x2, .int (8 : Int32), am_ju, am_ju, am_ju, am_ju]) (st' := []) (h' := (zl sn sx, xa c0 T D r b tl, M, q)) (fun _ _ => rfl) ?_
  obtain ⟨z, hz, hM⟩ := am_bind hM
  rcases z with z | z
  ·
    refine sl_Board_attacked_B_3 ?_ _ _ hz
    show am_ev 1 k_Board_attacked (51, [.ref 114, .int x1, .int x2, am_ju, am_ju, am_ju, am_ju, am_ju], [], (zl sn sx, xa c0 T D r b tl, M, q)) oo
    exact sj_Board_attacked_B_51 hx hM
  ·
    cases hM
    refine sl_Board_attacked_B_3 ?_ _ _ hz
    exact hx
theorem s_Board_attacked_B {fu : Nat} {sn : Nat} {sx : Nat → Int32} {M : List am_C} {q : Nat × Nat} {c0 : am_C} {tl : List am_C} {T : TxT} {D : BdT} {r : RdT} {b : BdT} {x1 : Int32} {x2 : Int32} {ov : Int32} (hM : f_Board_attacked fu x1 x2 b = some ov) : am_cv 2 k_Board_attacked [.ref 114, .int x1, .int x2] (zl sn sx, xa c0 T D r b tl, M, q) (.inl (some (.int ov)), (zl sn sx, xa c0 T D r b tl, M, q)) := am_cv.of rfl (se_Board_attacked_B (e := ov) (show y_Board_attacked_B sn sx M q c0 tl T D r b _ ov from rfl) hM)
def y_Board_isLegal_B (sn : Nat) (sx : Nat → Int32) (M : List am_C) (q : Nat × Nat) (c0 : am_C) (tl : List am_C) (T : TxT) (D : BdT) (r : RdT) (b : BdT) (oo : am_O) : Int32 → Prop
  | ov => oo = (.inl (some (.int ov)), (zl sn sx, xa c0 T D r b tl, M, q))
theorem se_Board_isLegal_B {fu : Nat} {sn : Nat} {sx : Nat → Int32} {M : List am_C} {q : Nat × Nat} {c0 : am_C} {tl : List am_C} {T : TxT} {D : BdT} {r : RdT} {b : BdT} {oo : am_O} {e : Int32} (hx : y_Board_isLegal_B sn sx M q c0 tl T D r b oo e) (hM : f_Board_isLegal fu b = some e) : am_ev 2 k_Board_isLegal (0, [.ref 114], [], (zl sn sx, xa c0 T D r b tl, M, q)) oo := by
  unfold f_Board_isLegal at hM
  obtain ⟨c1, hM⟩ := am_ifn hM
  refine am_ev.kc 8 12 [.ref 114] [.int ((bd_kings b) (((1 : Int32) - (bd_side b))).toNatClampNeg), .ref 114] (zl sn sx, xa c0 T D r b tl, M, q) c1 (fun _ _ => rfl) ?_
  obtain ⟨rr, hc, hM⟩ := am_bind hM
  obtain ⟨r1, rfl⟩ : ∃ z, z = rr := ⟨_, rfl⟩
  refine am_ev.kg 2 (pc' := 16) (lv' := [.ref 114]) (st' := [.int (bd_side b), .int ((bd_kings b) (((1 : Int32) - (bd_side b))).toNatClampNeg), .ref 114]) (h' := (zl sn sx, xa c0 T D r b tl, M, q)) (fun _ _ => rfl) ?_
  refine am_ev.call rfl rfl rfl ((s_Board_attacked_B hc).mono (by decide)) ?_
  show am_ev _ k_Board_isLegal (19, [.ref 114], [.int r1], (zl sn sx, xa c0 T D r b tl, M, q)) oo
  rcases am_if hM with ⟨c2, hM⟩ | ⟨c2, hM⟩
  · refine am_ev.kt 1 26 22 [.ref 114] [] (zl sn sx, xa c0 T D r b tl, M, q) c2 (fun _ _ => rfl) ?_
    cases hM
    cases hx
    exact am_ev.kf 2 (fun _ _ => rfl)
  · refine am_ev.ke 1 26 22 [.ref 114] [] (zl sn sx, xa c0 T D r b tl, M, q) c2 (fun _ _ => rfl) ?_
    cases hM
    cases hx
    exact am_ev.kf 3 (fun _ _ => rfl)
theorem s_Board_isLegal_B {fu : Nat} {sn : Nat} {sx : Nat → Int32} {M : List am_C} {q : Nat × Nat} {c0 : am_C} {tl : List am_C} {T : TxT} {D : BdT} {r : RdT} {b : BdT} {ov : Int32} (hM : f_Board_isLegal fu b = some ov) : am_cv 3 k_Board_isLegal [.ref 114] (zl sn sx, xa c0 T D r b tl, M, q) (.inl (some (.int ov)), (zl sn sx, xa c0 T D r b tl, M, q)) := am_cv.of rfl (se_Board_isLegal_B (e := ov) (show y_Board_isLegal_B sn sx M q c0 tl T D r b _ ov from rfl) hM)
def y_MoveRow_add_L (sn : Nat) (sx : Nat → Int32) (M : List am_C) (q : Nat × Nat) (T : TxT) (D : BdT) (r : RdT) (B : BdT) (V : MvT) (F : RwT) (R : Nat → RwT) (S : SoT) (P : HeT) (oo : am_O) : RwT → Prop
  | ow => oo = (.inl none, (zl sn sx, xa xm T D r B (xb V ow F R S P), M, q))
theorem se_MoveRow_add_L {sn : Nat} {sx : Nat → Int32} {M : List am_C} {q : Nat × Nat} {T : TxT} {D : BdT} {r : RdT} {B : BdT} {V : MvT} {F : RwT} {R : Nat → RwT} {S : SoT} {P : HeT} {w : RwT} {x1 : Int32} {oo : am_O} {e : RwT} (hx : y_MoveRow_add_L sn sx M q T D r B V F R S P oo e) (hM : f_MoveRow_add x1 w = some e) : am_ev 1 k_MoveRow_add (0, [.ref 125, .int x1], [], (zl sn sx, xa xm T D r B (xb V w F R S P), M, q)) oo := by
  unfold f_MoveRow_add at hM
  rcases am_if hM with ⟨c1, hM⟩ | ⟨c1, hM⟩
  · refine am_ev.kt 4 30 10 [.ref 125, .int x1] [] (zl sn sx, xa xm T D r B (xb V w F R S P), M, q) c1 (fun _ _ => rfl) ?_
    cases hM
    cases hx
    exact am_ev.kf 1 (fun _ _ => rfl)
  · refine am_ev.ke 4 30 10 [.ref 125, .int x1] [] (zl sn sx, xa xm T D r B (xb V w F R S P), M, q) c1 (fun _ _ => rfl) ?_
    obtain ⟨c2, hM⟩ := am_ifn hM
    refine am_ev.kc 6 20 [.ref 125, .int x1] [] (zl sn sx, xa xm T D r B (xb V ((upd (rw_told w) ((rw_count w)).toNatClampNeg x1), (rw_count w)) F R S P), M, q) c2 (fun _ _ => rfl) ?_
    cases hM
    cases hx
    exact am_ev.kf 7 (fun _ _ => rfl)
theorem s_MoveRow_add_L {sn : Nat} {sx : Nat → Int32} {M : List am_C} {q : Nat × Nat} {T : TxT} {D : BdT} {r : RdT} {B : BdT} {V : MvT} {F : RwT} {R : Nat → RwT} {S : SoT} {P : HeT} {w : RwT} {x1 : Int32} {ow : RwT} (hM : f_MoveRow_add x1 w = some ow) : am_cv 2 k_MoveRow_add [.ref 125, .int x1] (zl sn sx, xa xm T D r B (xb V w F R S P), M, q) (.inl none, (zl sn sx, xa xm T D r B (xb V ow F R S P), M, q)) := am_cv.of rfl (se_MoveRow_add_L (e := ow) (show y_MoveRow_add_L sn sx M q T D r B V F R S P _ ow from rfl) hM)
def y_Long_bitCount (sn : Nat) (sx : Nat → Int32) (M : List am_C) (q : Nat × Nat) (c0 : am_C) (tl : List am_C) (T : TxT) (D : BdT) (r : RdT) (B : BdT) (oo : am_O) : Int32 → Prop
  | ov => oo = (.inl (some (.int ov)), (zl sn sx, xa c0 T D r B tl, M, q))
theorem sj_Long_bitCount_55 {sn : Nat} {sx : Nat → Int32} {M : List am_C} {q : Nat × Nat} {c0 : am_C} {tl : List am_C} {T : TxT} {D : BdT} {r : RdT} {B : BdT} {l0 : Int64} {oo : am_O} {e : Int32} (hx : y_Long_bitCount sn sx M q c0 tl T D r B oo e) (hM : j_Long_bitCount_55 l0 = some e) : am_ev 1 k_Long_bitCount (55, [.long l0, am_ju], [], (zl sn sx, xa c0 T D r B tl, M, q)) oo := by
  unfold j_Long_bitCount_55 at hM
  cases hM
  cases hx
  exact am_ev.kf 5 (fun _ _ => rfl)
theorem sj_Long_bitCount_48 {sn : Nat} {sx : Nat → Int32} {M : List am_C} {q : Nat × Nat} {c0 : am_C} {tl : List am_C} {T : TxT} {D : BdT} {r : RdT} {B : BdT} {l0 : Int64} {oo : am_O} {e : Int32} (hx : y_Long_bitCount sn sx M q c0 tl T D r B oo e) (hM : j_Long_bitCount_48 l0 = some e) : am_ev 1 k_Long_bitCount (48, [.long l0, am_ju], [], (zl sn sx, xa c0 T D r B tl, M, q)) oo := by
  unfold j_Long_bitCount_48 at hM
  refine am_ev.kg 6 (pc' := 55) (lv' := [.long (l0 + (am_ushr l0 (32 : Int32))), am_ju]) (st' := []) (h' := (zl sn sx, xa c0 T D r B tl, M, q)) (fun _ _ => rfl) ?_
  exact sj_Long_bitCount_55 hx hM
theorem sj_Long_bitCount_41 {sn : Nat} {sx : Nat → Int32} {M : List am_C} {q : Nat × Nat} {c0 : am_C} {tl : List am_C} {T : TxT} {D : BdT} {r : RdT} {B : BdT} {l0 : Int64} {oo : am_O} {e : Int32} (hx : y_Long_bitCount sn sx M q c0 tl T D r B oo e) (hM : j_Long_bitCount_41 l0 = some e) : am_ev 1 k_Long_bitCount (41, [.long l0, am_ju], [], (zl sn sx, xa c0 T D r B tl, M, q)) oo := by
  unfold j_Long_bitCount_41 at hM
  refine am_ev.kg 6 (pc' := 48) (lv' := [.long (l0 + (am_ushr l0 (16 : Int32))), am_ju]) (st' := []) (h' := (zl sn sx, xa c0 T D r B tl, M, q)) (fun _ _ => rfl) ?_
  exact sj_Long_bitCount_48 hx hM
theorem sj_Long_bitCount_34 {sn : Nat} {sx : Nat → Int32} {M : List am_C} {q : Nat × Nat} {c0 : am_C} {tl : List am_C} {T : TxT} {D : BdT} {r : RdT} {B : BdT} {l0 : Int64} {oo : am_O} {e : Int32} (hx : y_Long_bitCount sn sx M q c0 tl T D r B oo e) (hM : j_Long_bitCount_34 l0 = some e) : am_ev 1 k_Long_bitCount (34, [.long l0, am_ju], [], (zl sn sx, xa c0 T D r B tl, M, q)) oo := by
  unfold j_Long_bitCount_34 at hM
  refine am_ev.kg 6 (pc' := 41) (lv' := [.long (l0 + (am_ushr l0 (8 : Int32))), am_ju]) (st' := []) (h' := (zl sn sx, xa c0 T D r B tl, M, q)) (fun _ _ => rfl) ?_
  exact sj_Long_bitCount_41 hx hM
theorem sj_Long_bitCount_24 {sn : Nat} {sx : Nat → Int32} {M : List am_C} {q : Nat × Nat} {c0 : am_C} {tl : List am_C} {T : TxT} {D : BdT} {r : RdT} {B : BdT} {l0 : Int64} {oo : am_O} {e : Int32} (hx : y_Long_bitCount sn sx M q c0 tl T D r B oo e) (hM : j_Long_bitCount_24 l0 = some e) : am_ev 1 k_Long_bitCount (24, [.long l0, am_ju], [], (zl sn sx, xa c0 T D r B tl, M, q)) oo := by
  unfold j_Long_bitCount_24 at hM
  refine am_ev.kg 8 (pc' := 34) (lv' := [.long ((l0 + (am_ushr l0 (4 : Int32))) &&& (1085102592571150095 : Int64)), am_ju]) (st' := []) (h' := (zl sn sx, xa c0 T D r B tl, M, q)) (fun _ _ => rfl) ?_
  exact sj_Long_bitCount_34 hx hM
theorem sj_Long_bitCount_10 {sn : Nat} {sx : Nat → Int32} {M : List am_C} {q : Nat × Nat} {c0 : am_C} {tl : List am_C} {T : TxT} {D : BdT} {r : RdT} {B : BdT} {l0 : Int64} {oo : am_O} {e : Int32} (hx : y_Long_bitCount sn sx M q c0 tl T D r B oo e) (hM : j_Long_bitCount_10 l0 = some e) : am_ev 1 k_Long_bitCount (10, [.long l0, am_ju], [], (zl sn sx, xa c0 T D r B tl, M, q)) oo := by
  unfold j_Long_bitCount_10 at hM
  refine am_ev.kg 10 (pc' := 24) (lv' := [.long ((l0 &&& (3689348814741910323 : Int64)) + ((am_ushr l0 (2 : Int32)) &&& (3689348814741910323 : Int64))), am_ju]) (st' := []) (h' := (zl sn sx, xa c0 T D r B tl, M, q)) (fun _ _ => rfl) ?_
  exact sj_Long_bitCount_24 hx hM
theorem se_Long_bitCount {sn : Nat} {sx : Nat → Int32} {M : List am_C} {q : Nat × Nat} {c0 : am_C} {tl : List am_C} {T : TxT} {D : BdT} {r : RdT} {B : BdT} {l0 : Int64} {oo : am_O} {e : Int32} (hx : y_Long_bitCount sn sx M q c0 tl T D r B oo e) (hM : f_Long_bitCount l0 = some e) : am_ev 1 k_Long_bitCount (0, [.long l0, am_ju], [], (zl sn sx, xa c0 T D r B tl, M, q)) oo := by
  unfold f_Long_bitCount at hM
  refine am_ev.kg 8 (pc' := 10) (lv' := [.long (l0 - ((am_ushr l0 (1 : Int32)) &&& (6148914691236517205 : Int64))), am_ju]) (st' := []) (h' := (zl sn sx, xa c0 T D r B tl, M, q)) (fun _ _ => rfl) ?_
  exact sj_Long_bitCount_10 hx hM
theorem s_Long_bitCount {sn : Nat} {sx : Nat → Int32} {M : List am_C} {q : Nat × Nat} {c0 : am_C} {tl : List am_C} {T : TxT} {D : BdT} {r : RdT} {B : BdT} {l0 : Int64} {ov : Int32} (hM : f_Long_bitCount l0 = some ov) : am_cv 2 k_Long_bitCount [.long l0] (zl sn sx, xa c0 T D r B tl, M, q) (.inl (some (.int ov)), (zl sn sx, xa c0 T D r B tl, M, q)) := am_cv.of rfl (se_Long_bitCount (e := ov) (show y_Long_bitCount sn sx M q c0 tl T D r B _ ov from rfl) hM)
def y_MoveRow_addAll_L (sn : Nat) (sx : Nat → Int32) (M : List am_C) (q : Nat × Nat) (T : TxT) (D : BdT) (r : RdT) (B : BdT) (V : MvT) (F : RwT) (R : Nat → RwT) (S : SoT) (P : HeT) (oo : am_O) : RwT → Prop
  | ow => oo = (.inl none, (zl sn sx, xa xm T D r B (xb V ow F R S P), M, q))
def x_MoveRow_addAll_L_77 (sn : Nat) (sx : Nat → Int32) (M : List am_C) (q : Nat × Nat) (T : TxT) (D : BdT) (r : RdT) (B : BdT) (V : MvT) (F : RwT) (R : Nat → RwT) (S : SoT) (P : HeT) (x1 : Int32) (x4 : Int32) (l5 : Int64) (x7 : Int32) (x10 : Int32) (oo : am_O) : (RwT) → Prop
  | w => am_ev 2 k_MoveRow_addAll (102, [.ref 125, .int x1, am_ju, am_ju, .int x4, .long l5, am_ju, .int x7, am_ju, am_ju, am_ju, am_ju], [], (zl sn sx, xa xm T D r B (xb V w F R S P), M, q)) oo
def x_MoveRow_addAll_L_6 (sn : Nat) (sx : Nat → Int32) (M : List am_C) (q : Nat × Nat) (T : TxT) (D : BdT) (r : RdT) (B : BdT) (V : MvT) (F : RwT) (R : Nat → RwT) (S : SoT) (P : HeT) (x1 : Int32) (x4 : Int32) (oo : am_O) : RwT → Prop
  | ow => oo = (.inl none, (zl sn sx, xa xm T D r B (xb V ow F R S P), M, q))
theorem sb_MoveRow_addAll_L_77 {fu : Nat} {sn : Nat} {sx : Nat → Int32} {M : List am_C} {q : Nat × Nat} {T : TxT} {D : BdT} {r : RdT} {B : BdT} {V : MvT} {F : RwT} {R : Nat → RwT} {S : SoT} {P : HeT} {x1 : Int32} {x4 : Int32} {l5 : Int64} {x7 : Int32} {x10 : Int32} {oo : am_O} {e : (RwT)} {gg : Int32 → RwT → Option ((RwT))} (hx : x_MoveRow_addAll_L_77 sn sx M q T D r B V F R S P x1 x4 l5 x7 x10 oo e) (hg : ∀ (x11 : Int32) (w : RwT), gg x11 w = some e → am_ev 2 k_MoveRow_addAll (77, [.ref 125, .int x1, am_ju, am_ju, .int x4, .long l5, am_ju, .int x7, am_ju, am_ju, .int x10, .int x11], [], (zl sn sx, xa xm T D r B (xb V w F R S P), M, q)) oo) {x11 : Int32} {w : RwT} (hM : b_MoveRow_addAll_77 fu x1 x4 l5 x7 x10 gg x11 w = some e) : am_ev 2 k_MoveRow_addAll (77, [.ref 125, .int x1, am_ju, am_ju, .int x4, .long l5, am_ju, .int x7, am_ju, am_ju, .int x10, .int x11], [], (zl sn sx, xa xm T D r B (xb V w F R S P), M, q)) oo := by
  unfold b_MoveRow_addAll_77 at hM
  rcases am_if hM with ⟨c1, hM⟩ | ⟨c1, hM⟩
  · refine am_ev.kt 3 102 83 [.ref 125, .int x1, am_ju, am_ju, .int x4, .long l5, am_ju, .int x7, am_ju, am_ju, .int x10, .int x11] [] (zl sn sx, xa xm T D r B (xb V w F R S P), M, q) c1 (fun _ _ => rfl) ?_
    refine am_ev.wk (lv' := [.ref 125, .int x1, am_ju, am_ju, .int x4, .long l5, am_ju, .int x7, am_ju, am_ju, am_ju, am_ju]) (am_lc (Or.inr rfl) (am_lc (Or.inr rfl) (am_lc (Or.inr rfl) (am_lc (Or.inr rfl) (am_lc (Or.inr rfl) (am_lc (Or.inr rfl) (am_lc (Or.inr rfl) (am_lc (Or.inr rfl) (am_lc (Or.inr rfl) (am_lc (Or.inr rfl) (am_lc (Or.inl rfl) (am_lc (Or.inl rfl) am_ln)))))))))))) ?_
    cases hM
    exact hx
  · refine am_ev.ke 3 102 83 [.ref 125, .int x1, am_ju, am_ju, .int x4, .long l5, am_ju, .int x7, am_ju, am_ju, .int x10, .int x11] [] (zl sn sx, xa xm T D r B (xb V w F R S P), M, q) c1 (fun _ _ => rfl) ?_
    obtain ⟨rr, hc, hM⟩ := am_bind hM
    obtain ⟨wg3, rfl⟩ : ∃ z, z = rr := ⟨_, rfl⟩
    refine am_ev.kg 6 (pc' := 93) (lv' := [.ref 125, .int x1, am_ju, am_ju, .int x4, .long l5, am_ju, .int x7, am_ju, am_ju, .int x10, .int x11]) (st' := [.int (x10 + ((4096 : Int32) * x11)), .ref 125]) (h' := (zl sn sx, xa xm T D r B (xb V w F R S P), M, q)) (fun _ _ => rfl) ?_
    refine am_ev.call rfl rfl rfl ((s_MoveRow_add_L hc).mono (by decide)) ?_
    show am_ev _ k_MoveRow_addAll (96, [.ref 125, .int x1, am_ju, am_ju, .int x4, .long l5, am_ju, .int x7, am_ju, am_ju, .int x10, .int x11], [], (zl sn sx, xa xm T D r B (xb V wg3 F R S P), M, q)) oo
    refine am_ev.kg 2 (pc' := 77) (lv' := [.ref 125, .int x1, am_ju, am_ju, .int x4, .long l5, am_ju, .int x7, am_ju, am_ju, .int x10, .int (x11 + (1 : Int32))]) (st' := []) (h' := (zl sn sx, xa xm T D r B (xb V wg3 F R S P), M, q)) (fun _ _ => rfl) ?_
    exact hg _ _ hM
theorem sl_MoveRow_addAll_L_77 {fu : Nat} {sn : Nat} {sx : Nat → Int32} {M : List am_C} {q : Nat × Nat} {T : TxT} {D : BdT} {r : RdT} {B : BdT} {V : MvT} {F : RwT} {R : Nat → RwT} {S : SoT} {P : HeT} {x1 : Int32} {x4 : Int32} {l5 : Int64} {x7 : Int32} {x10 : Int32} {oo : am_O} {e : (RwT)} (hx : x_MoveRow_addAll_L_77 sn sx M q T D r B V F R S P x1 x4 l5 x7 x10 oo e) : ∀ (n : Nat) (x11 : Int32) (w : RwT), l_MoveRow_addAll_77 fu x1 x4 l5 x7 x10 n x11 w = some e → am_ev 2 k_MoveRow_addAll (77, [.ref 125, .int x1, am_ju, am_ju, .int x4, .long l5, am_ju, .int x7, am_ju, am_ju, .int x10, .int x11], [], (zl sn sx, xa xm T D r B (xb V w F R S P), M, q)) oo
  | 0, _, _, hM => by have h : (none : Option ((RwT))) = some e := hM; cases h
  | n + 1, _, _, hM => sb_MoveRow_addAll_L_77 hx (fun _ _ hM => sl_MoveRow_addAll_L_77 hx n _ _ hM) hM
theorem sj_MoveRow_addAll_L_102 {fu : Nat} {sn : Nat} {sx : Nat → Int32} {M : List am_C} {q : Nat × Nat} {T : TxT} {D : BdT} {r : RdT} {B : BdT} {V : MvT} {F : RwT} {R : Nat → RwT} {S : SoT} {P : HeT} {w : RwT} {x1 : Int32} {x4 : Int32} {l5 : Int64} {x7 : Int32} {oo : am_O} {e : RwT} {gg : Int64 → Int32 → RwT → Option (RwT)} (hx : x_MoveRow_addAll_L_6 sn sx M q T D r B V F R S P x1 x4 oo e) (hg : ∀ (l5 : Int64) (x7 : Int32) (w : RwT), gg l5 x7 w = some e → am_ev 2 k_MoveRow_addAll (6, [.ref 125, .int x1, am_ju, am_ju, .int x4, .long l5, am_ju, .int x7, am_ju, am_ju, am_ju, am_ju], [], (zl sn sx, xa xm T D r B (xb V w F R S P), M, q)) oo) (hM : j_MoveRow_addAll_102 fu gg w x1 x4 l5 x7 = some e) : am_ev 2 k_MoveRow_addAll (102, [.ref 125, .int x1, am_ju, am_ju, .int x4, .long l5, am_ju, .int x7, am_ju, am_ju, am_ju, am_ju], [], (zl sn sx, xa xm T D r B (xb V w F R S P), M, q)) oo := by
  unfold j_MoveRow_addAll_102 at hM
  refine am_ev.kg 2 (pc' := 6) (lv' := [.ref 125, .int x1, am_ju, am_ju, .int x4, .long l5, am_ju, .int (x7 + (1 : Int32)), am_ju, am_ju, am_ju, am_ju]) (st' := []) (h' := (zl sn sx, xa xm T D r B (xb V w F R S P), M, q)) (fun _ _ => rfl) ?_
  exact hg _ _ _ hM
theorem sj_MoveRow_addAll_L_65 {fu : Nat} {sn : Nat} {sx : Nat → Int32} {M : List am_C} {q : Nat × Nat} {T : TxT} {D : BdT} {r : RdT} {B : BdT} {V : MvT} {F : RwT} {R : Nat → RwT} {S : SoT} {P : HeT} {w : RwT} {x1 : Int32} {x4 : Int32} {l5 : Int64} {x7 : Int32} {x10 : Int32} {oo : am_O} {e : RwT} {gg : Int64 → Int32 → RwT → Option (RwT)} (hx : x_MoveRow_addAll_L_6 sn sx M q T D r B V F R S P x1 x4 oo e) (hg : ∀ (l5 : Int64) (x7 : Int32) (w : RwT), gg l5 x7 w = some e → am_ev 2 k_MoveRow_addAll (6, [.ref 125, .int x1, am_ju, am_ju, .int x4, .long l5, am_ju, .int x7, am_ju, am_ju, am_ju, am_ju], [], (zl sn sx, xa xm T D r B (xb V w F R S P), M, q)) oo) (hM : j_MoveRow_addAll_65 fu gg w x1 x4 l5 x7 x10 = some e) : am_ev 2 k_MoveRow_addAll (65, [.ref 125, .int x1, am_ju, am_ju, .int x4, .long l5, am_ju, .int x7, am_ju, am_ju, .int x10, am_ju], [], (zl sn sx, xa xm T D r B (xb V w F R S P), M, q)) oo := by
  unfold j_MoveRow_addAll_65 at hM
  obtain ⟨rr, hc, hM⟩ := am_bind hM
  obtain ⟨wg2, rfl⟩ : ∃ z, z = rr := ⟨_, rfl⟩
  refine am_ev.kg 2 (pc' := 68) (lv' := [.ref 125, .int x1, am_ju, am_ju, .int x4, .long l5, am_ju, .int x7, am_ju, am_ju, .int x10, am_ju]) (st' := [.int x10, .ref 125]) (h' := (zl sn sx, xa xm T D r B (xb V w F R S P), M, q)) (fun _ _ => rfl) ?_
  refine am_ev.call rfl rfl rfl ((s_MoveRow_add_L hc).mono (by decide)) ?_
  show am_ev _ k_MoveRow_addAll (71, [.ref 125, .int x1, am_ju, am_ju, .int x4, .long l5, am_ju, .int x7, am_ju, am_ju, .int x10, am_ju], [], (zl sn sx, xa xm T D r B (xb V wg2 F R S P), M, q)) oo
  refine am_ev.kg 1 (pc' := 102) (lv' := [.ref 125, .int x1, am_ju, am_ju, .int x4, .long l5, am_ju, .int x7, am_ju, am_ju, .int x10, am_ju]) (st' := []) (h' := (zl sn sx, xa xm T D r B (xb V wg2 F R S P), M, q)) (fun _ _ => rfl) ?_
  refine am_ev.wk (lv' := [.ref 125, .int x1, am_ju, am_ju, .int x4, .long l5, am_ju, .int x7, am_ju, am_ju, am_ju, am_ju]) (am_lc (Or.inr rfl) (am_lc (Or.inr rfl) (am_lc (Or.inr rfl) (am_lc (Or.inr rfl) (am_lc (Or.inr rfl) (am_lc (Or.inr rfl) (am_lc (Or.inr rfl) (am_lc (Or.inr rfl) (am_lc (Or.inr rfl) (am_lc (Or.inr rfl) (am_lc (Or.inl rfl) (am_lc (Or.inr rfl) am_ln)))))))))))) ?_
  exact sj_MoveRow_addAll_L_102 hx hg hM
theorem sb_MoveRow_addAll_L_6 {fu : Nat} {sn : Nat} {sx : Nat → Int32} {M : List am_C} {q : Nat × Nat} {T : TxT} {D : BdT} {r : RdT} {B : BdT} {V : MvT} {F : RwT} {R : Nat → RwT} {S : SoT} {P : HeT} {x1 : Int32} {x4 : Int32} {oo : am_O} {e : RwT} {gg : Int64 → Int32 → RwT → Option (RwT)} (hx : x_MoveRow_addAll_L_6 sn sx M q T D r B V F R S P x1 x4 oo e) (hg : ∀ (l5 : Int64) (x7 : Int32) (w : RwT), gg l5 x7 w = some e → am_ev 2 k_MoveRow_addAll (6, [.ref 125, .int x1, am_ju, am_ju, .int x4, .long l5, am_ju, .int x7, am_ju, am_ju, am_ju, am_ju], [], (zl sn sx, xa xm T D r B (xb V w F R S P), M, q)) oo) {l5 : Int64} {x7 : Int32} {w : RwT} (hM : b_MoveRow_addAll_6 fu x1 x4 gg l5 x7 w = some e) : am_ev 2 k_MoveRow_addAll (6, [.ref 125, .int x1, am_ju, am_ju, .int x4, .long l5, am_ju, .int x7, am_ju, am_ju, am_ju, am_ju], [], (zl sn sx, xa xm T D r B (xb V w F R S P), M, q)) oo := by
  unfold b_MoveRow_addAll_6 at hM
  rcases am_if hM with ⟨c2, hM⟩ | ⟨c2, hM⟩
  · refine am_ev.kt 3 108 13 [.ref 125, .int x1, am_ju, am_ju, .int x4, .long l5, am_ju, .int x7, am_ju, am_ju, am_ju, am_ju] [] (zl sn sx, xa xm T D r B (xb V w F R S P), M, q) c2 (fun _ _ => rfl) ?_
    cases hM
    cases hx
    exact am_ev.kf 1 (fun _ _ => rfl)
  · refine am_ev.ke 3 108 13 [.ref 125, .int x1, am_ju, am_ju, .int x4, .long l5, am_ju, .int x7, am_ju, am_ju, am_ju, am_ju] [] (zl sn sx, xa xm T D r B (xb V w F R S P), M, q) c2 (fun _ _ => rfl) ?_
    rcases am_if hM with ⟨c3, hM⟩ | ⟨c3, hM⟩
    · refine am_ev.kt 4 108 20 [.ref 125, .int x1, am_ju, am_ju, .int x4, .long l5, am_ju, .int x7, am_ju, am_ju, am_ju, am_ju] [] (zl sn sx, xa xm T D r B (xb V w F R S P), M, q) c3 (fun _ _ => rfl) ?_
      cases hM
      cases hx
      exact am_ev.kf 1 (fun _ _ => rfl)
    · refine am_ev.ke 4 108 20 [.ref 125, .int x1, am_ju, am_ju, .int x4, .long l5, am_ju, .int x7, am_ju, am_ju, am_ju, am_ju] [] (zl sn sx, xa xm T D r B (xb V w F R S P), M, q) c3 (fun _ _ => rfl) ?_
      obtain ⟨rr, hc, hM⟩ := am_bind hM
      obtain ⟨r1, rfl⟩ : ∃ z, z = rr := ⟨_, rfl⟩
      refine am_ev.kg 14 (pc' := 42) (lv' := [.ref 125, .int x1, am_ju, am_ju, .int x4, .long (l5 ^^^ (l5 &&& (-l5))), am_ju, .int x7, .long (l5 &&& (-l5)), am_ju, am_ju, am_ju]) (st' := [.long ((l5 &&& (-l5)) - (1 : Int64)), .int (64 : Int32), .int x1]) (h' := (zl sn sx, xa xm T D r B (xb V w F R S P), M, q)) (fun _ _ => rfl) ?_
      refine am_ev.call rfl rfl rfl ((s_Long_bitCount hc).mono (by decide)) ?_
      show am_ev _ k_MoveRow_addAll (45, [.ref 125, .int x1, am_ju, am_ju, .int x4, .long (l5 ^^^ (l5 &&& (-l5))), am_ju, .int x7, .long (l5 &&& (-l5)), am_ju, am_ju, am_ju], [.int r1, .int (64 : Int32), .int x1], (zl sn sx, xa xm T D r B (xb V w F R S P), M, q)) oo
      rcases am_if hM with ⟨c4, hM⟩ | ⟨c4, hM⟩
      · refine am_ev.kt 5 65 54 [.ref 125, .int x1, am_ju, am_ju, .int x4, .long (l5 ^^^ (l5 &&& (-l5))), am_ju, .int x7, .long (l5 &&& (-l5)), am_ju, .int (x1 + ((64 : Int32) * r1)), am_ju] [] (zl sn sx, xa xm T D r B (xb V w F R S P), M, q) c4 (fun _ _ => rfl) ?_
        refine am_ev.wk (lv' := [.ref 125, .int x1, am_ju, am_ju, .int x4, .long (l5 ^^^ (l5 &&& (-l5))), am_ju, .int x7, am_ju, am_ju, .int (x1 + ((64 : Int32) * r1)), am_ju]) (am_lc (Or.inr rfl) (am_lc (Or.inr rfl) (am_lc (Or.inr rfl) (am_lc (Or.inr rfl) (am_lc (Or.inr rfl) (am_lc (Or.inr rfl) (am_lc (Or.inr rfl) (am_lc (Or.inr rfl) (am_lc (Or.inl rfl) (am_lc (Or.inr rfl) (am_lc (Or.inr rfl) (am_lc (Or.inr rfl) am_ln)))))))))))) ?_
        exact sj_MoveRow_addAll_L_65 hx hg hM
      · refine am_ev.ke 5 65 54 [.ref 125, .int x1, am_ju, am_ju, .int x4, .long (l5 ^^^ (l5 &&& (-l5))), am_ju, .int x7, .long (l5 &&& (-l5)), am_ju, .int (x1 + ((64 : Int32) * r1)), am_ju] [] (zl sn sx, xa xm T D r B (xb V w F R S P), M, q) c4 (fun _ _ => rfl) ?_
        rcases am_if hM with ⟨c5, hM⟩ | ⟨c5, hM⟩
        · refine am_ev.kt 6 74 65 [.ref 125, .int x1, am_ju, am_ju, .int x4, .long (l5 ^^^ (l5 &&& (-l5))), am_ju, .int x7, .long (l5 &&& (-l5)), am_ju, .int (x1 + ((64 : Int32) * r1)), am_ju] [] (zl sn sx, xa xm T D r B (xb V w F R S P), M, q) c5 (fun _ _ => rfl) ?_
          refine am_ev.kg 2 (pc' := 77) (lv' := [.ref 125, .int x1, am_ju, am_ju, .int x4, .long (l5 ^^^ (l5 &&& (-l5))), am_ju, .int x7, .long (l5 &&& (-l5)), am_ju, .int (x1 + ((64 : Int32) * r1)), .int (2 : Int32)]) (st' := []) (h' := (zl sn sx, xa xm T D r B (xb V w F R S P), M, q)) (fun _ _ => rfl) ?_
          refine am_ev.wk (lv' := [.ref 125, .int x1, am_ju, am_ju, .int x4, .long (l5 ^^^ (l5 &&& (-l5))), am_ju, .int x7, am_ju, am_ju, .int (x1 + ((64 : Int32) * r1)), .int (2 : Int32)]) (am_lc (Or.inr rfl) (am_lc (Or.inr rfl) (am_lc (Or.inr rfl) (am_lc (Or.inr rfl) (am_lc (Or.inr rfl) (am_lc (Or.inr rfl) (am_lc (Or.inr rfl) (am_lc (Or.inr rfl) (am_lc (Or.inl rfl) (am_lc (Or.inr rfl) (am_lc (Or.inr rfl) (am_lc (Or.inr rfl) am_ln)))))))))))) ?_
          obtain ⟨z, hz, hM⟩ := am_bind hM
          obtain ⟨wz_1, rfl⟩ : ∃ y, y = z := ⟨_, rfl⟩
          refine sl_MoveRow_addAll_L_77 ?_ _ _ _ hz
          show am_ev 2 k_MoveRow_addAll (102, [.ref 125, .int x1, am_ju, am_ju, .int x4, .long (l5 ^^^ (l5 &&& (-l5))), am_ju, .int x7, am_ju, am_ju, am_ju, am_ju], [], (zl sn sx, xa xm T D r B (xb V wz_1 F R S P), M, q)) oo
          exact sj_MoveRow_addAll_L_102 hx hg hM
        · refine am_ev.ke 6 74 65 [.ref 125, .int x1, am_ju, am_ju, .int x4, .long (l5 ^^^ (l5 &&& (-l5))), am_ju, .int x7, .long (l5 &&& (-l5)), am_ju, .int (x1 + ((64 : Int32) * r1)), am_ju] [] (zl sn sx, xa xm T D r B (xb V w F R S P), M, q) c5 (fun _ _ => rfl) ?_
          refine am_ev.wk (lv' := [.ref 125, .int x1, am_ju, am_ju, .int x4, .long (l5 ^^^ (l5 &&& (-l5))), am_ju, .int x7, am_ju, am_ju, .int (x1 + ((64 : Int32) * r1)), am_ju]) (am_lc (Or.inr rfl) (am_lc (Or.inr rfl) (am_lc (Or.inr rfl) (am_lc (Or.inr rfl) (am_lc (Or.inr rfl) (am_lc (Or.inr rfl) (am_lc (Or.inr rfl) (am_lc (Or.inr rfl) (am_lc (Or.inl rfl) (am_lc (Or.inr rfl) (am_lc (Or.inr rfl) (am_lc (Or.inr rfl) am_ln)))))))))))) ?_
          exact sj_MoveRow_addAll_L_65 hx hg hM
theorem sl_MoveRow_addAll_L_6 {fu : Nat} {sn : Nat} {sx : Nat → Int32} {M : List am_C} {q : Nat × Nat} {T : TxT} {D : BdT} {r : RdT} {B : BdT} {V : MvT} {F : RwT} {R : Nat → RwT} {S : SoT} {P : HeT} {x1 : Int32} {x4 : Int32} {oo : am_O} {e : RwT} (hx : x_MoveRow_addAll_L_6 sn sx M q T D r B V F R S P x1 x4 oo e) : ∀ (n : Nat) (l5 : Int64) (x7 : Int32) (w : RwT), l_MoveRow_addAll_6 fu x1 x4 n l5 x7 w = some e → am_ev 2 k_MoveRow_addAll (6, [.ref 125, .int x1, am_ju, am_ju, .int x4, .long l5, am_ju, .int x7, am_ju, am_ju, am_ju, am_ju], [], (zl sn sx, xa xm T D r B (xb V w F R S P), M, q)) oo
  | 0, _, _, _, hM => by have h : (none : Option (RwT)) = some e := hM; cases h
  | n + 1, _, _, _, hM => sb_MoveRow_addAll_L_6 hx (fun _ _ _ hM => sl_MoveRow_addAll_L_6 hx n _ _ _ hM) hM
theorem se_MoveRow_addAll_L {fu : Nat} {sn : Nat} {sx : Nat → Int32} {M : List am_C} {q : Nat × Nat} {T : TxT} {D : BdT} {r : RdT} {B : BdT} {V : MvT} {F : RwT} {R : Nat → RwT} {S : SoT} {P : HeT} {w : RwT} {x1 : Int32} {l2 : Int64} {x4 : Int32} {oo : am_O} {e : RwT} (hx : y_MoveRow_addAll_L sn sx M q T D r B V F R S P oo e) (hM : f_MoveRow_addAll fu x1 l2 x4 w = some e) : am_ev 2 k_MoveRow_addAll (0, [.ref 125, .int x1, .long l2, am_ju, .int x4, am_ju, am_ju, am_ju, am_ju, am_ju, am_ju, am_ju], [], (zl sn sx, xa xm T D r B (xb V w F R S P), M, q)) oo := by
  unfold f_MoveRow_addAll at hM
  refine am_ev.kg 4 (pc' := 6) (lv' := [.ref 125, .int x1, .long l2, am_ju, .int x4, .long l2, am_ju, .int (0 : Int32), am_ju, am_ju, am_ju, am_ju]) (st' := []) (h' := (zl sn sx, xa xm T D r B (xb V w F R S P), M, q)) (fun _ _ => rfl) ?_
  refine am_ev.wk (lv' := [.ref 125, .int x1, am_ju, am_ju, .int x4, .long l2, am_ju, .int (0 : Int32), am_ju, am_ju, am_ju, am_ju]) (am_lc (Or.inr rfl) (am_lc (Or.inr rfl) (am_lc (Or.inl rfl) (am_lc (Or.inr rfl) (am_lc (Or.inr rfl) (am_lc (Or.inr rfl) (am_lc (Or.inr rfl) (am_lc (Or.inr rfl) (am_lc (Or.inr rfl) (am_lc (Or.inr rfl) (am_lc (Or.inr rfl) (am_lc (Or.inr rfl) am_ln)))))))))))) ?_
  refine sl_MoveRow_addAll_L_6 ?_ _ _ _ _ hM
  exact hx
theorem s_MoveRow_addAll_L {fu : Nat} {sn : Nat} {sx : Nat → Int32} {M : List am_C} {q : Nat × Nat} {T : TxT} {D : BdT} {r : RdT} {B : BdT} {V : MvT} {F : RwT} {R : Nat → RwT} {S : SoT} {P : HeT} {w : RwT} {x1 : Int32} {l2 : Int64} {x4 : Int32} {ow : RwT} (hM : f_MoveRow_addAll fu x1 l2 x4 w = some ow) : am_cv 3 k_MoveRow_addAll [.ref 125, .int x1, .long l2, .int x4] (zl sn sx, xa xm T D r B (xb V w F R S P), M, q) (.inl none, (zl sn sx, xa xm T D r B (xb V ow F R S P), M, q)) := am_cv.of rfl (se_MoveRow_addAll_L (e := ow) (show y_MoveRow_addAll_L sn sx M q T D r B V F R S P _ ow from rfl) hM)
def y_Mover_lowest (sn : Nat) (sx : Nat → Int32) (M : List am_C) (q : Nat × Nat) (c0 : am_C) (tl : List am_C) (T : TxT) (D : BdT) (r : RdT) (B : BdT) (oo : am_O) : Int32 → Prop
  | ov => oo = (.inl (some (.int ov)), (zl sn sx, xa c0 T D r B tl, M, q))
theorem se_Mover_lowest {sn : Nat} {sx : Nat → Int32} {M : List am_C} {q : Nat × Nat} {c0 : am_C} {tl : List am_C} {T : TxT} {D : BdT} {r : RdT} {B : BdT} {l0 : Int64} {oo : am_O} {e : Int32} (hx : y_Mover_lowest sn sx M q c0 tl T D r B oo e) (hM : f_Mover_lowest l0 = some e) : am_ev 2 k_Mover_lowest (0, [.long l0, am_ju], [], (zl sn sx, xa c0 T D r B tl, M, q)) oo := by
  unfold f_Mover_lowest at hM
  obtain ⟨rr, hc, hM⟩ := am_bind hM
  obtain ⟨r1, rfl⟩ : ∃ z, z = rr := ⟨_, rfl⟩
  refine am_ev.kg 6 (pc' := 6) (lv' := [.long l0, am_ju]) (st' := [.long ((l0 &&& (-l0)) - (1 : Int64))]) (h' := (zl sn sx, xa c0 T D r B tl, M, q)) (fun _ _ => rfl) ?_
  refine am_ev.call rfl rfl rfl ((s_Long_bitCount hc).mono (by decide)) ?_
  show am_ev _ k_Mover_lowest (9, [.long l0, am_ju], [.int r1], (zl sn sx, xa c0 T D r B tl, M, q)) oo
  cases hM
  cases hx
  exact am_ev.kf 1 (fun _ _ => rfl)
theorem s_Mover_lowest {sn : Nat} {sx : Nat → Int32} {M : List am_C} {q : Nat × Nat} {c0 : am_C} {tl : List am_C} {T : TxT} {D : BdT} {r : RdT} {B : BdT} {l0 : Int64} {ov : Int32} (hM : f_Mover_lowest l0 = some ov) : am_cv 3 k_Mover_lowest [.long l0] (zl sn sx, xa c0 T D r B tl, M, q) (.inl (some (.int ov)), (zl sn sx, xa c0 T D r B tl, M, q)) := am_cv.of rfl (se_Mover_lowest (e := ov) (show y_Mover_lowest sn sx M q c0 tl T D r B _ ov from rfl) hM)
def y_Board_seen_B (sn : Nat) (sx : Nat → Int32) (M : List am_C) (q : Nat × Nat) (c0 : am_C) (tl : List am_C) (T : TxT) (D : BdT) (r : RdT) (b : BdT) (oo : am_O) : Int64 → Prop
  | ov => oo = (.inl (some (.long ov)), (zl sn sx, xa c0 T D r b tl, M, q))
def x_Board_seen_B_29 (sn : Nat) (sx : Nat → Int32) (M : List am_C) (q : Nat × Nat) (c0 : am_C) (tl : List am_C) (T : TxT) (D : BdT) (r : RdT) (b : BdT) (x1 : Int32) (x3 : Int32) (x4 : Int32) (x7 : Int32) (oo : am_O) : (Int64) → Prop
  | l5 => am_ev 1 k_Board_seen (85, [.ref 114, .int x1, am_ju, .int x3, .int x4, .long l5, am_ju, .int x7, am_ju, am_ju], [], (zl sn sx, xa c0 T D r b tl, M, q)) oo
def x_Board_seen_B_6 (sn : Nat) (sx : Nat → Int32) (M : List am_C) (q : Nat × Nat) (c0 : am_C) (tl : List am_C) (T : TxT) (D : BdT) (r : RdT) (b : BdT) (x1 : Int32) (x3 : Int32) (x4 : Int32) (oo : am_O) : Int64 → Prop
  | ov => oo = (.inl (some (.long ov)), (zl sn sx, xa c0 T D r b tl, M, q))
theorem sj_Board_seen_B_85 {fu : Nat} {sn : Nat} {sx : Nat → Int32} {M : List am_C} {q : Nat × Nat} {c0 : am_C} {tl : List am_C} {T : TxT} {D : BdT} {r : RdT} {b : BdT} {x1 : Int32} {x3 : Int32} {x4 : Int32} {l5 : Int64} {x7 : Int32} {oo : am_O} {e : Int64} {gg : Int64 → Int32 → Option (Int64)} (hx : x_Board_seen_B_6 sn sx M q c0 tl T D r b x1 x3 x4 oo e) (hg : ∀ (l5 : Int64) (x7 : Int32), gg l5 x7 = some e → am_ev 1 k_Board_seen (6, [.ref 114, .int x1, am_ju, .int x3, .int x4, .long l5, am_ju, .int x7, am_ju, am_ju], [], (zl sn sx, xa c0 T D r b tl, M, q)) oo) (hM : j_Board_seen_85 fu gg b x1 x3 x4 l5 x7 = some e) : am_ev 1 k_Board_seen (85, [.ref 114, .int x1, am_ju, .int x3, .int x4, .long l5, am_ju, .int x7, am_ju, am_ju], [], (zl sn sx, xa c0 T D r b tl, M, q)) oo := by
  unfold j_Board_seen_85 at hM
  refine am_ev.kg 2 (pc' := 6) (lv' := [.ref 114, .int x1, am_ju, .int x3, .int x4, .long l5, am_ju, .int (x7 + (1 : Int32)), am_ju, am_ju]) (st' := []) (h' := (zl sn sx, xa c0 T D r b tl, M, q)) (fun _ _ => rfl) ?_
  exact hg _ _ hM
theorem sj_Board_seen_B_77 {fu : Nat} {sn : Nat} {sx : Nat → Int32} {M : List am_C} {q : Nat × Nat} {c0 : am_C} {tl : List am_C} {T : TxT} {D : BdT} {r : RdT} {b : BdT} {x1 : Int32} {x3 : Int32} {x4 : Int32} {l5 : Int64} {x7 : Int32} {x9 : Int32} {s0 : Int32} {oo : am_O} {e : (Int64)} {gg : Int64 → Int32 → Int32 → Option ((Int64))} (hx : x_Board_seen_B_29 sn sx M q c0 tl T D r b x1 x3 x4 x7 oo e) (hg : ∀ (l5 : Int64) (x8 : Int32) (x9 : Int32), gg l5 x8 x9 = some e → am_ev 1 k_Board_seen (29, [.ref 114, .int x1, am_ju, .int x3, .int x4, .long l5, am_ju, .int x7, .int x8, .int x9], [], (zl sn sx, xa c0 T D r b tl, M, q)) oo) (hM : j_Board_seen_77 fu gg b x1 x3 x4 l5 x7 x9 s0 = some e) : am_ev 1 k_Board_seen (77, [.ref 114, .int x1, am_ju, .int x3, .int x4, .long l5, am_ju, .int x7, am_ju, .int x9], [.int s0], (zl sn sx, xa c0 T D r b tl, M, q)) oo := by
  unfold j_Board_seen_77 at hM
  refine am_ev.kg 3 (pc' := 29) (lv' := [.ref 114, .int x1, am_ju, .int x3, .int x4, .long l5, am_ju, .int x7, .int s0, .int (x9 + (1 : Int32))]) (st' := []) (h' := (zl sn sx, xa c0 T D r b tl, M, q)) (fun _ _ => rfl) ?_
  exact hg _ _ _ hM
theorem sb_Board_seen_B_29 {fu : Nat} {sn : Nat} {sx : Nat → Int32} {M : List am_C} {q : Nat × Nat} {c0 : am_C} {tl : List am_C} {T : TxT} {D : BdT} {r : RdT} {b : BdT} {x1 : Int32} {x3 : Int32} {x4 : Int32} {x7 : Int32} {oo : am_O} {e : (Int64)} {gg : Int64 → Int32 → Int32 → Option ((Int64))} (hx : x_Board_seen_B_29 sn sx M q c0 tl T D r b x1 x3 x4 x7 oo e) (hg : ∀ (l5 : Int64) (x8 : Int32) (x9 : Int32), gg l5 x8 x9 = some e → am_ev 1 k_Board_seen (29, [.ref 114, .int x1, am_ju, .int x3, .int x4, .long l5, am_ju, .int x7, .int x8, .int x9], [], (zl sn sx, xa c0 T D r b tl, M, q)) oo) {l5 : Int64} {x8 : Int32} {x9 : Int32} (hM : b_Board_seen_29 fu b x1 x3 x4 x7 gg l5 x8 x9 = some e) : am_ev 1 k_Board_seen (29, [.ref 114, .int x1, am_ju, .int x3, .int x4, .long l5, am_ju, .int x7, .int x8, .int x9], [], (zl sn sx, xa c0 T D r b tl, M, q)) oo := by
  unfold b_Board_seen_29 at hM
  rcases am_if hM with ⟨c1, hM⟩ | ⟨c1, hM⟩
  · refine am_ev.kt 3 85 36 [.ref 114, .int x1, am_ju, .int x3, .int x4, .long l5, am_ju, .int x7, .int x8, .int x9] [] (zl sn sx, xa c0 T D r b tl, M, q) c1 (fun _ _ => rfl) ?_
    refine am_ev.wk (lv' := [.ref 114, .int x1, am_ju, .int x3, .int x4, .long l5, am_ju, .int x7, am_ju, am_ju]) (am_lc (Or.inr rfl) (am_lc (Or.inr rfl) (am_lc (Or.inr rfl) (am_lc (Or.inr rfl) (am_lc (Or.inr rfl) (am_lc (Or.inr rfl) (am_lc (Or.inr rfl) (am_lc (Or.inr rfl) (am_lc (Or.inl rfl) (am_lc (Or.inl rfl) am_ln)))))))))) ?_
    cases hM
    exact hx
  · refine am_ev.ke 3 85 36 [.ref 114, .int x1, am_ju, .int x3, .int x4, .long l5, am_ju, .int x7, .int x8, .int x9] [] (zl sn sx, xa c0 T D r b tl, M, q) c1 (fun _ _ => rfl) ?_
    rcases am_if hM with ⟨c2, hM⟩ | ⟨c2, hM⟩
    · refine am_ev.kt 2 85 41 [.ref 114, .int x1, am_ju, .int x3, .int x4, .long l5, am_ju, .int x7, .int x8, .int x9] [] (zl sn sx, xa c0 T D r b tl, M, q) c2 (fun _ _ => rfl) ?_
      refine am_ev.wk (lv' := [.ref 114, .int x1, am_ju, .int x3, .int x4, .long l5, am_ju, .int x7, am_ju, am_ju]) (am_lc (Or.inr rfl) (am_lc (Or.inr rfl) (am_lc (Or.inr rfl) (am_lc (Or.inr rfl) (am_lc (Or.inr rfl) (am_lc (Or.inr rfl) (am_lc (Or.inr rfl) (am_lc (Or.inr rfl) (am_lc (Or.inl rfl) (am_lc (Or.inl rfl) am_ln)))))))))) ?_
      cases hM
      exact hx
    · refine am_ev.ke 2 85 41 [.ref 114, .int x1, am_ju, .int x3, .int x4, .long l5, am_ju, .int x7, .int x8, .int x9] [] (zl sn sx, xa c0 T D r b tl, M, q) c2 (fun _ _ => rfl) ?_
      obtain ⟨c3, hM⟩ := am_ifn hM
      refine am_ev.kc 10 57 [.ref 114, .int x1, am_ju, .int x3, .int x4, .long (l5 ||| (am_shl (1 : Int64) x8)), am_ju, .int x7, .int x8, .int x9] [.int ((bd_men b) (x8).toNatClampNeg)] (zl sn sx, xa c0 T D r b tl, M, q) c3 (fun _ _ => rfl) ?_
      rcases am_if hM with ⟨c4, hM⟩ | ⟨c4, hM⟩
      · refine am_ev.kt 1 76 60 [.ref 114, .int x1, am_ju, .int x3, .int x4, .long (l5 ||| (am_shl (1 : Int64) x8)), am_ju, .int x7, .int x8, .int x9] [] (zl sn sx, xa c0 T D r b tl, M, q) c4 (fun _ _ => rfl) ?_
        refine am_ev.kg 1 (pc' := 77) (lv' := [.ref 114, .int x1, am_ju, .int x3, .int x4, .long (l5 ||| (am_shl (1 : Int64) x8)), am_ju, .int x7, .int x8, .int x9]) (st' := [.int (-1 : Int32)]) (h' := (zl sn sx, xa c0 T D r b tl, M, q)) (fun _ _ => rfl) ?_
        refine am_ev.wk (lv' := [.ref 114, .int x1, am_ju, .int x3, .int x4, .long (l5 ||| (am_shl (1 : Int64) x8)), am_ju, .int x7, am_ju, .int x9]) (am_lc (Or.inr rfl) (am_lc (Or.inr rfl) (am_lc (Or.inr rfl) (am_lc (Or.inr rfl) (am_lc (Or.inr rfl) (am_lc (Or.inr rfl) (am_lc (Or.inr rfl) (am_lc (Or.inr rfl) (am_lc (Or.inl rfl) (am_lc (Or.inr rfl) am_ln)))))))))) ?_
        exact sj_Board_seen_B_77 hx hg hM
      · refine am_ev.ke 1 76 60 [.ref 114, .int x1, am_ju, .int x3, .int x4, .long (l5 ||| (am_shl (1 : Int64) x8)), am_ju, .int x7, .int x8, .int x9] [] (zl sn sx, xa c0 T D r b tl, M, q) c4 (fun _ _ => rfl) ?_
        obtain ⟨c5, hM⟩ := am_ifn hM
        refine am_ev.kc 8 73 [.ref 114, .int x1, am_ju, .int x3, .int x4, .long (l5 ||| (am_shl (1 : Int64) x8)), am_ju, .int x7, .int x8, .int x9] [.int (tb_next ((((64 : Int32) * x7) + x8)).toNatClampNeg)] (zl sn sx, xa c0 T D r b tl, M, q) c5 (fun _ _ => rfl) ?_
        refine am_ev.kg 1 (pc' := 77) (lv' := [.ref 114, .int x1, am_ju, .int x3, .int x4, .long (l5 ||| (am_shl (1 : Int64) x8)), am_ju, .int x7, .int x8, .int x9]) (st' := [.int (tb_next ((((64 : Int32) * x7) + x8)).toNatClampNeg)]) (h' := (zl sn sx, xa c0 T D r b tl, M, q)) (fun _ _ => rfl) ?_
        refine am_ev.wk (lv' := [.ref 114, .int x1, am_ju, .int x3, .int x4, .long (l5 ||| (am_shl (1 : Int64) x8)), am_ju, .int x7, am_ju, .int x9]) (am_lc (Or.inr rfl) (am_lc (Or.inr rfl) (am_lc (Or.inr rfl) (am_lc (Or.inr rfl) (am_lc (Or.inr rfl) (am_lc (Or.inr rfl) (am_lc (Or.inr rfl) (am_lc (Or.inr rfl) (am_lc (Or.inl rfl) (am_lc (Or.inr rfl) am_ln)))))))))) ?_
        exact sj_Board_seen_B_77 hx hg hM
theorem sl_Board_seen_B_29 {fu : Nat} {sn : Nat} {sx : Nat → Int32} {M : List am_C} {q : Nat × Nat} {c0 : am_C} {tl : List am_C} {T : TxT} {D : BdT} {r : RdT} {b : BdT} {x1 : Int32} {x3 : Int32} {x4 : Int32} {x7 : Int32} {oo : am_O} {e : (Int64)} (hx : x_Board_seen_B_29 sn sx M q c0 tl T D r b x1 x3 x4 x7 oo e) : ∀ (n : Nat) (l5 : Int64) (x8 : Int32) (x9 : Int32), l_Board_seen_29 fu b x1 x3 x4 x7 n l5 x8 x9 = some e → am_ev 1 k_Board_seen (29, [.ref 114, .int x1, am_ju, .int x3, .int x4, .long l5, am_ju, .int x7, .int x8, .int x9], [], (zl sn sx, xa c0 T D r b tl, M, q)) oo
  | 0, _, _, _, hM => by have h : (none : Option ((Int64))) = some e := hM; cases h
  | n + 1, _, _, _, hM => sb_Board_seen_B_29 hx (fun _ _ _ hM => sl_Board_seen_B_29 hx n _ _ _ hM) hM
theorem sb_Board_seen_B_6 {fu : Nat} {sn : Nat} {sx : Nat → Int32} {M : List am_C} {q : Nat × Nat} {c0 : am_C} {tl : List am_C} {T : TxT} {D : BdT} {r : RdT} {b : BdT} {x1 : Int32} {x3 : Int32} {x4 : Int32} {oo : am_O} {e : Int64} {gg : Int64 → Int32 → Option (Int64)} (hx : x_Board_seen_B_6 sn sx M q c0 tl T D r b x1 x3 x4 oo e) (hg : ∀ (l5 : Int64) (x7 : Int32), gg l5 x7 = some e → am_ev 1 k_Board_seen (6, [.ref 114, .int x1, am_ju, .int x3, .int x4, .long l5, am_ju, .int x7, am_ju, am_ju], [], (zl sn sx, xa c0 T D r b tl, M, q)) oo) {l5 : Int64} {x7 : Int32} (hM : b_Board_seen_6 fu b x1 x3 x4 gg l5 x7 = some e) : am_ev 1 k_Board_seen (6, [.ref 114, .int x1, am_ju, .int x3, .int x4, .long l5, am_ju, .int x7, am_ju, am_ju], [], (zl sn sx, xa c0 T D r b tl, M, q)) oo := by
  unfold b_Board_seen_6 at hM
  rcases am_if hM with ⟨c6, hM⟩ | ⟨c6, hM⟩
  · refine am_ev.kt 3 91 12 [.ref 114, .int x1, am_ju, .int x3, .int x4, .long l5, am_ju, .int x7, am_ju, am_ju] [] (zl sn sx, xa c0 T D r b tl, M, q) c6 (fun _ _ => rfl) ?_
    cases hM
    cases hx
    exact am_ev.kf 2 (fun _ _ => rfl)
  · refine am_ev.ke 3 91 12 [.ref 114, .int x1, am_ju, .int x3, .int x4, .long l5, am_ju, .int x7, am_ju, am_ju] [] (zl sn sx, xa c0 T D r b tl, M, q) c6 (fun _ _ => rfl) ?_
    obtain ⟨c7, hM⟩ := am_ifn hM
    refine am_ev.kc 8 24 [.ref 114, .int x1, am_ju, .int x3, .int x4, .long l5, am_ju, .int x7, am_ju, am_ju] [.int (tb_next ((((64 : Int32) * x7) + x1)).toNatClampNeg)] (zl sn sx, xa c0 T D r b tl, M, q) c7 (fun _ _ => rfl) ?_
    refine am_ev.kg 3 (pc' := 29) (lv' := [.ref 114, .int x1, am_ju, .int x3, .int x4, .long l5, am_ju, .int x7, .int (tb_next ((((64 : Int32) * x7) + x1)).toNatClampNeg), .int (0 : Int32)]) (st' := []) (h' := (zl sn sx, xa c0 T D r b tl, M, q)) (fun _ _ => rfl) ?_
    obtain ⟨z, hz, hM⟩ := am_bind hM
    obtain ⟨l5_1, rfl⟩ : ∃ y, y = z := ⟨_, rfl⟩
    refine sl_Board_seen_B_29 ?_ _ _ _ _ hz
    show am_ev 1 k_Board_seen (85, [.ref 114, .int x1, am_ju, .int x3, .int x4, .long l5_1, am_ju, .int x7, am_ju, am_ju], [], (zl sn sx, xa c0 T D r b tl, M, q)) oo
    exact sj_Board_seen_B_85 hx hg hM
theorem sl_Board_seen_B_6 {fu : Nat} {sn : Nat} {sx : Nat → Int32} {M : List am_C} {q : Nat × Nat} {c0 : am_C} {tl : List am_C} {T : TxT} {D : BdT} {r : RdT} {b : BdT} {x1 : Int32} {x3 : Int32} {x4 : Int32} {oo : am_O} {e : Int64} (hx : x_Board_seen_B_6 sn sx M q c0 tl T D r b x1 x3 x4 oo e) : ∀ (n : Nat) (l5 : Int64) (x7 : Int32), l_Board_seen_6 fu b x1 x3 x4 n l5 x7 = some e → am_ev 1 k_Board_seen (6, [.ref 114, .int x1, am_ju, .int x3, .int x4, .long l5, am_ju, .int x7, am_ju, am_ju], [], (zl sn sx, xa c0 T D r b tl, M, q)) oo
  | 0, _, _, hM => by have h : (none : Option (Int64)) = some e := hM; cases h
  | n + 1, _, _, hM => sb_Board_seen_B_6 hx (fun _ _ hM => sl_Board_seen_B_6 hx n _ _ hM) hM
theorem se_Board_seen_B {fu : Nat} {sn : Nat} {sx : Nat → Int32} {M : List am_C} {q : Nat × Nat} {c0 : am_C} {tl : List am_C} {T : TxT} {D : BdT} {r : RdT} {b : BdT} {x1 : Int32} {x2 : Int32} {x3 : Int32} {x4 : Int32} {oo : am_O} {e : Int64} (hx : y_Board_seen_B sn sx M q c0 tl T D r b oo e) (hM : f_Board_seen fu x1 x2 x3 x4 b = some e) : am_ev 1 k_Board_seen (0, [.ref 114, .int x1, .int x2, .int x3, .int x4, am_ju, am_ju, am_ju, am_ju, am_ju], [], (zl sn sx, xa c0 T D r b tl, M, q)) oo := by
  unfold f_Board_seen at hM
  refine am_ev.kg 4 (pc' := 6) (lv' := [.ref 114, .int x1, .int x2, .int x3, .int x4, .long (0 : Int64), am_ju, .int x2, am_ju, am_ju]) (st' := []) (h' := (zl sn sx, xa c0 T D r b tl, M, q)) (fun _ _ => rfl) ?_
  refine am_ev.wk (lv' := [.ref 114, .int x1, am_ju, .int x3, .int x4, .long (0 : Int64), am_ju, .int x2, am_ju, am_ju]) (am_lc (Or.inr rfl) (am_lc (Or.inr rfl) (am_lc (Or.inl rfl) (am_lc (Or.inr rfl) (am_lc (Or.inr rfl) (am_lc (Or.inr rfl) (am_lc (Or.inr rfl) (am_lc (Or.inr rfl) (am_lc (Or.inr rfl) (am_lc (Or.inr rfl) am_ln)))))))))) ?_
  refine sl_Board_seen_B_6 ?_ _ _ _ hM
  exact hx
theorem s_Board_seen_B {fu : Nat} {sn : Nat} {sx : Nat → Int32} {M : List am_C} {q : Nat × Nat} {c0 : am_C} {tl : List am_C} {T : TxT} {D : BdT} {r : RdT} {b : BdT} {x1 : Int32} {x2 : Int32} {x3 : Int32} {x4 : Int32} {ov : Int64} (hM : f_Board_seen fu x1 x2 x3 x4 b = some ov) : am_cv 2 k_Board_seen [.ref 114, .int x1, .int x2, .int x3, .int x4] (zl sn sx, xa c0 T D r b tl, M, q) (.inl (some (.long ov)), (zl sn sx, xa c0 T D r b tl, M, q)) := am_cv.of rfl (se_Board_seen_B (e := ov) (show y_Board_seen_B sn sx M q c0 tl T D r b _ ov from rfl) hM)
def y_Board_inFront_B (sn : Nat) (sx : Nat → Int32) (M : List am_C) (q : Nat × Nat) (c0 : am_C) (tl : List am_C) (T : TxT) (D : BdT) (r : RdT) (b : BdT) (oo : am_O) : Int32 → Prop
  | ov => oo = (.inl (some (.int ov)), (zl sn sx, xa c0 T D r b tl, M, q))
theorem se_Board_inFront_B {sn : Nat} {sx : Nat → Int32} {M : List am_C} {q : Nat × Nat} {c0 : am_C} {tl : List am_C} {T : TxT} {D : BdT} {r : RdT} {b : BdT} {x1 : Int32} {x2 : Int32} {oo : am_O} {e : Int32} (hx : y_Board_inFront_B sn sx M q c0 tl T D r b oo e) (hM : f_Board_inFront x1 x2 = some e) : am_ev 1 k_Board_inFront (0, [.ref 114, .int x1, .int x2], [], (zl sn sx, xa c0 T D r b tl, M, q)) oo := by
  unfold f_Board_inFront at hM
  rcases am_if hM with ⟨c1, hM⟩ | ⟨c1, hM⟩
  · refine am_ev.kt 5 14 10 [.ref 114, .int x1, .int x2] [.int (64 : Int32), .ref 101] (zl sn sx, xa c0 T D r b tl, M, q) c1 (fun _ _ => rfl) ?_
    obtain ⟨c2, hM⟩ := am_ifn hM
    refine am_ev.kc 5 19 [.ref 114, .int x1, .int x2] [.int (tb_next ((((64 : Int32) * (1 : Int32)) + x1)).toNatClampNeg)] (zl sn sx, xa c0 T D r b tl, M, q) c2 (fun _ _ => rfl) ?_
    cases hM
    cases hx
    exact am_ev.kf 1 (fun _ _ => rfl)
  · refine am_ev.ke 5 14 10 [.ref 114, .int x1, .int x2] [.int (64 : Int32), .ref 101] (zl sn sx, xa c0 T D r b tl, M, q) c1 (fun _ _ => rfl) ?_
    obtain ⟨c3, hM⟩ := am_ifn hM
    refine am_ev.kc 6 19 [.ref 114, .int x1, .int x2] [.int (tb_next ((((64 : Int32) * (0 : Int32)) + x1)).toNatClampNeg)] (zl sn sx, xa c0 T D r b tl, M, q) c3 (fun _ _ => rfl) ?_
    cases hM
    cases hx
    exact am_ev.kf 1 (fun _ _ => rfl)
theorem s_Board_inFront_B {sn : Nat} {sx : Nat → Int32} {M : List am_C} {q : Nat × Nat} {c0 : am_C} {tl : List am_C} {T : TxT} {D : BdT} {r : RdT} {b : BdT} {x1 : Int32} {x2 : Int32} {ov : Int32} (hM : f_Board_inFront x1 x2 = some ov) : am_cv 2 k_Board_inFront [.ref 114, .int x1, .int x2] (zl sn sx, xa c0 T D r b tl, M, q) (.inl (some (.int ov)), (zl sn sx, xa c0 T D r b tl, M, q)) := am_cv.of rfl (se_Board_inFront_B (e := ov) (show y_Board_inFront_B sn sx M q c0 tl T D r b _ ov from rfl) hM)
def y_Mover_passedBit (sn : Nat) (sx : Nat → Int32) (M : List am_C) (q : Nat × Nat) (T : TxT) (D : BdT) (r : RdT) (B : BdT) (V : MvT) (L : RwT) (F : RwT) (R : Nat → RwT) (S : SoT) (P : HeT) (oo : am_O) : Int64 → Prop
  | ov => oo = (.inl (some (.long ov)), (zl sn sx, xa xm T D r B (xb V L F R S P), M, q))
theorem se_Mover_passedBit {sn : Nat} {sx : Nat → Int32} {M : List am_C} {q : Nat × Nat} {T : TxT} {D : BdT} {r : RdT} {B : BdT} {V : MvT} {L : RwT} {F : RwT} {R : Nat → RwT} {S : SoT} {P : HeT} {oo : am_O} {e : Int64} (hx : y_Mover_passedBit sn sx M q T D r B V L F R S P oo e) (hM : f_Mover_passedBit B = some e) : am_ev 1 k_Mover_passedBit (0, [.ref 123], [], (zl sn sx, xa xm T D r B (xb V L F R S P), M, q)) oo := by
  unfold f_Mover_passedBit at hM
  rcases am_if hM with ⟨c1, hM⟩ | ⟨c1, hM⟩
  · refine am_ev.kt 4 22 10 [.ref 123] [] (zl sn sx, xa xm T D r B (xb V L F R S P), M, q) c1 (fun _ _ => rfl) ?_
    cases hM
    cases hx
    exact am_ev.kf 2 (fun _ _ => rfl)
  · refine am_ev.ke 4 22 10 [.ref 123] [] (zl sn sx, xa xm T D r B (xb V L F R S P), M, q) c1 (fun _ _ => rfl) ?_
    cases hM
    cases hx
    exact am_ev.kf 7 (fun _ _ => rfl)
theorem s_Mover_passedBit {sn : Nat} {sx : Nat → Int32} {M : List am_C} {q : Nat × Nat} {T : TxT} {D : BdT} {r : RdT} {B : BdT} {V : MvT} {L : RwT} {F : RwT} {R : Nat → RwT} {S : SoT} {P : HeT} {ov : Int64} (hM : f_Mover_passedBit B = some ov) : am_cv 2 k_Mover_passedBit [.ref 123] (zl sn sx, xa xm T D r B (xb V L F R S P), M, q) (.inl (some (.long ov)), (zl sn sx, xa xm T D r B (xb V L F R S P), M, q)) := am_cv.of rfl (se_Mover_passedBit (e := ov) (show y_Mover_passedBit sn sx M q T D r B V L F R S P _ ov from rfl) hM)
