def y_M_isLegal (sn : Nat) (sx : Nat → Int32) (X : List am_C) (q : Nat × Nat) (tl : List am_C) (E : ThT) (G : RtT) (N : NuT) (A : PaT) (Y : LiT) (K : KeT) (H : HlT) (oo : am_O) : Int32 × PoT × UnT → Prop
  | (ov, oQ, oU) => oo = (.inl (some (.int ov)), (zl sn sx, X, xr E G oQ N A oU Y K H tl, q))
theorem sj_M_isLegal_25 {fu : Nat} {sn : Nat} {sx : Nat → Int32} {X : List am_C} {q : Nat × Nat} {tl : List am_C} {E : ThT} {G : RtT} {Q : PoT} {N : NuT} {A : PaT} {U : UnT} {Y : LiT} {K : KeT} {H : HlT} {x1 : Int32} {s0 : Int32} {oo : am_O} {e : Int32 × PoT × UnT} (hx : y_M_isLegal sn sx X q tl E G N A Y K H oo e) (hM : j_M_isLegal_25 fu Q U x1 s0 = some e) : am_ev 6 k_M_isLegal (25, [.ref 1000, .int x1, am_ju], [.int s0], (zl sn sx, X, xr E G Q N A U Y K H tl, q)) oo := by
  unfold j_M_isLegal_25 at hM
  obtain ⟨rr, hc, hM⟩ := am_bind hM
  obtain ⟨qg4, rfl⟩ : ∃ z, z = rr := ⟨_, rfl⟩
  refine am_ev.kg 4 (pc' := 30) (lv' := [.ref 1000, .int x1, .int s0]) (st' := [.int (10 : Int32), .int x1, .ref 1000]) (h' := (zl sn sx, X, xr E G Q N A U Y K H tl, q)) (fun _ _ => rfl) ?_
  refine am_ev.call rfl rfl rfl ((s_M_takeBack hc).mono (by decide)) ?_
  show am_ev _ k_M_isLegal (33, [.ref 1000, .int x1, .int s0], [], (zl sn sx, X, xr E G qg4 N A U Y K H tl, q)) oo
  cases hM
  cases hx
  exact am_ev.kf 2 (fun _ _ => rfl)
theorem se_M_isLegal {fu : Nat} {sn : Nat} {sx : Nat → Int32} {X : List am_C} {q : Nat × Nat} {tl : List am_C} {E : ThT} {G : RtT} {Q : PoT} {N : NuT} {A : PaT} {U : UnT} {Y : LiT} {K : KeT} {H : HlT} {x1 : Int32} {oo : am_O} {e : Int32 × PoT × UnT} (hx : y_M_isLegal sn sx X q tl E G N A Y K H oo e) (hM : f_M_isLegal fu x1 Q U = some e) : am_ev 6 k_M_isLegal (0, [.ref 1000, .int x1, am_ju], [], (zl sn sx, X, xr E G Q N A U Y K H tl, q)) oo := by
  unfold f_M_isLegal at hM
  obtain ⟨rr, hc, hM⟩ := am_bind hM
  obtain ⟨qg1, ug2⟩ := rr
  refine am_ev.kg 3 (pc' := 4) (lv' := [.ref 1000, .int x1, am_ju]) (st' := [.int (10 : Int32), .int x1, .ref 1000]) (h' := (zl sn sx, X, xr E G Q N A U Y K H tl, q)) (fun _ _ => rfl) ?_
  refine am_ev.call rfl rfl rfl ((s_M_make hc).mono (by decide)) ?_
  show am_ev _ k_M_isLegal (7, [.ref 1000, .int x1, am_ju], [], (zl sn sx, X, xr E G qg1 N A ug2 Y K H tl, q)) oo
  obtain ⟨rr, hc, hM⟩ := am_bind hM
  obtain ⟨r3, rfl⟩ : ∃ z, z = rr := ⟨_, rfl⟩
  refine am_ev.kg 5 (pc' := 14) (lv' := [.ref 1000, .int x1, am_ju]) (st' := [.int ((1 : Int32) - (po_side qg1)), .ref 1000]) (h' := (zl sn sx, X, xr E G qg1 N A ug2 Y K H tl, q)) (fun _ _ => rfl) ?_
  refine am_ev.call rfl rfl rfl ((s_M_inCheck hc).mono (by decide)) ?_
  show am_ev _ k_M_isLegal (17, [.ref 1000, .int x1, am_ju], [.int r3], (zl sn sx, X, xr E G qg1 N A ug2 Y K H tl, q)) oo
  rcases am_if hM with ⟨c1, hM⟩ | ⟨c1, hM⟩
  · refine am_ev.kt 1 24 20 [.ref 1000, .int x1, am_ju] [] (zl sn sx, X, xr E G qg1 N A ug2 Y K H tl, q) c1 (fun _ _ => rfl) ?_
    refine am_ev.kg 1 (pc' := 25) (lv' := [.ref 1000, .int x1, am_ju]) (st' := [.int (0 : Int32)]) (h' := (zl sn sx, X, xr E G qg1 N A ug2 Y K H tl, q)) (fun _ _ => rfl) ?_
    exact sj_M_isLegal_25 hx hM
  · refine am_ev.ke 1 24 20 [.ref 1000, .int x1, am_ju] [] (zl sn sx, X, xr E G qg1 N A ug2 Y K H tl, q) c1 (fun _ _ => rfl) ?_
    refine am_ev.kg 2 (pc' := 25) (lv' := [.ref 1000, .int x1, am_ju]) (st' := [.int (1 : Int32)]) (h' := (zl sn sx, X, xr E G qg1 N A ug2 Y K H tl, q)) (fun _ _ => rfl) ?_
    exact sj_M_isLegal_25 hx hM
theorem s_M_isLegal {fu : Nat} {sn : Nat} {sx : Nat → Int32} {X : List am_C} {q : Nat × Nat} {tl : List am_C} {E : ThT} {G : RtT} {Q : PoT} {N : NuT} {A : PaT} {U : UnT} {Y : LiT} {K : KeT} {H : HlT} {x1 : Int32} {ov : Int32} {oQ : PoT} {oU : UnT} (hM : f_M_isLegal fu x1 Q U = some (ov, oQ, oU)) : am_cv 7 k_M_isLegal [.ref 1000, .int x1] (zl sn sx, X, xr E G Q N A U Y K H tl, q) (.inl (some (.int ov)), (zl sn sx, X, xr E G oQ N A oU Y K H tl, q)) := am_cv.of rfl (se_M_isLegal (e := (ov, oQ, oU)) (show y_M_isLegal sn sx X q tl E G N A Y K H _ (ov, oQ, oU) from rfl) hM)
def y_M_isOf (sn : Nat) (sx : Nat → Int32) (X : List am_C) (q : Nat × Nat) (tl : List am_C) (E : ThT) (G : RtT) (Q : PoT) (N : NuT) (A : PaT) (U : UnT) (Y : LiT) (K : KeT) (H : HlT) (oo : am_O) : Int32 → Prop
  | ov => oo = (.inl (some (.int ov)), (zl sn sx, X, xr E G Q N A U Y K H tl, q))
theorem se_M_isOf {sn : Nat} {sx : Nat → Int32} {X : List am_C} {q : Nat × Nat} {tl : List am_C} {E : ThT} {G : RtT} {Q : PoT} {N : NuT} {A : PaT} {U : UnT} {Y : LiT} {K : KeT} {H : HlT} {x1 : Int32} {x2 : Int32} {oo : am_O} {e : Int32} (hx : y_M_isOf sn sx X q tl E G Q N A U Y K H oo e) (hM : f_M_isOf x1 x2 Q = some e) : am_ev 1 k_M_isOf (0, [.ref 1000, .int x1, .int x2], [], (zl sn sx, X, xr E G Q N A U Y K H tl, q)) oo := by
  unfold f_M_isOf at hM
  obtain ⟨c1, hM⟩ := am_ifn hM
  refine am_ev.kc 4 6 [.ref 1000, .int x1, .int x2] [.int ((po_men Q) (x1).toNatClampNeg)] (zl sn sx, X, xr E G Q N A U Y K H tl, q) c1 (fun _ _ => rfl) ?_
  rcases am_if hM with ⟨c2, hM⟩ | ⟨c2, hM⟩
  · refine am_ev.kt 1 25 9 [.ref 1000, .int x1, .int x2] [] (zl sn sx, X, xr E G Q N A U Y K H tl, q) c2 (fun _ _ => rfl) ?_
    cases hM
    cases hx
    exact am_ev.kf 2 (fun _ _ => rfl)
  · refine am_ev.ke 1 25 9 [.ref 1000, .int x1, .int x2] [] (zl sn sx, X, xr E G Q N A U Y K H tl, q) c2 (fun _ _ => rfl) ?_
    obtain ⟨c3, hM⟩ := am_ifn hM
    refine am_ev.kc 4 15 [.ref 1000, .int x1, .int x2] [.int ((po_men Q) (x1).toNatClampNeg)] (zl sn sx, X, xr E G Q N A U Y K H tl, q) c3 (fun _ _ => rfl) ?_
    rcases am_if hM with ⟨c4, hM⟩ | ⟨c4, hM⟩
    · refine am_ev.kt 4 25 21 [.ref 1000, .int x1, .int x2] [] (zl sn sx, X, xr E G Q N A U Y K H tl, q) c4 (fun _ _ => rfl) ?_
      cases hM
      cases hx
      exact am_ev.kf 2 (fun _ _ => rfl)
    · refine am_ev.ke 4 25 21 [.ref 1000, .int x1, .int x2] [] (zl sn sx, X, xr E G Q N A U Y K H tl, q) c4 (fun _ _ => rfl) ?_
      cases hM
      cases hx
      exact am_ev.kf 3 (fun _ _ => rfl)
theorem s_M_isOf {sn : Nat} {sx : Nat → Int32} {X : List am_C} {q : Nat × Nat} {tl : List am_C} {E : ThT} {G : RtT} {Q : PoT} {N : NuT} {A : PaT} {U : UnT} {Y : LiT} {K : KeT} {H : HlT} {x1 : Int32} {x2 : Int32} {ov : Int32} (hM : f_M_isOf x1 x2 Q = some ov) : am_cv 2 k_M_isOf [.ref 1000, .int x1, .int x2] (zl sn sx, X, xr E G Q N A U Y K H tl, q) (.inl (some (.int ov)), (zl sn sx, X, xr E G Q N A U Y K H tl, q)) := am_cv.of rfl (se_M_isOf (e := ov) (show y_M_isOf sn sx X q tl E G Q N A U Y K H _ ov from rfl) hM)
def y_M_mayCastle (sn : Nat) (sx : Nat → Int32) (X : List am_C) (q : Nat × Nat) (tl : List am_C) (E : ThT) (G : RtT) (Q : PoT) (N : NuT) (A : PaT) (U : UnT) (Y : LiT) (K : KeT) (H : HlT) (oo : am_O) : Int32 → Prop
  | ov => oo = (.inl (some (.int ov)), (zl sn sx, X, xr E G Q N A U Y K H tl, q))
def x_M_mayCastle_53 (sn : Nat) (sx : Nat → Int32) (X : List am_C) (q : Nat × Nat) (tl : List am_C) (E : ThT) (G : RtT) (Q : PoT) (N : NuT) (A : PaT) (U : UnT) (Y : LiT) (K : KeT) (H : HlT) (x1 : Int32) (x2 : Int32) (oo : am_O) : ((Unit)) ⊕ (Int32) → Prop
  | (.inl ()) => am_ev 6 k_M_mayCastle (87, [.ref 1000, .int x1, .int x2, am_ju, am_ju], [], (zl sn sx, X, xr E G Q N A U Y K H tl, q)) oo
  | .inr ov => oo = (.inl (some (.int ov)), (zl sn sx, X, xr E G Q N A U Y K H tl, q))
theorem sj_M_mayCastle_66 {fu : Nat} {sn : Nat} {sx : Nat → Int32} {X : List am_C} {q : Nat × Nat} {tl : List am_C} {E : ThT} {G : RtT} {Q : PoT} {N : NuT} {A : PaT} {U : UnT} {Y : LiT} {K : KeT} {H : HlT} {x1 : Int32} {x2 : Int32} {x4 : Int32} {s0 : Int32} {s1 : Int32} {oo : am_O} {e : ((Unit)) ⊕ (Int32)} {gg : Int32 → Option (((Unit)) ⊕ (Int32))} (hx : x_M_mayCastle_53 sn sx X q tl E G Q N A U Y K H x1 x2 oo e) (hg : ∀ (x4 : Int32), gg x4 = some e → am_ev 6 k_M_mayCastle (53, [.ref 1000, .int x1, .int x2, am_ju, .int x4], [], (zl sn sx, X, xr E G Q N A U Y K H tl, q)) oo) (hM : j_M_mayCastle_66 fu gg Q x1 x2 x4 s0 s1 = some e) : am_ev 6 k_M_mayCastle (66, [.ref 1000, .int x1, .int x2, am_ju, .int x4], [.int s1, .int s0], (zl sn sx, X, xr E G Q N A U Y K H tl, q)) oo := by
  unfold j_M_mayCastle_66 at hM
  rcases am_if hM with ⟨c1, hM⟩ | ⟨c1, hM⟩
  · refine am_ev.kt 1 87 69 [.ref 1000, .int x1, .int x2, am_ju, .int x4] [] (zl sn sx, X, xr E G Q N A U Y K H tl, q) c1 (fun _ _ => rfl) ?_
    refine am_ev.wk (lv' := [.ref 1000, .int x1, .int x2, am_ju, am_ju]) (am_lc (Or.inr rfl) (am_lc (Or.inr rfl) (am_lc (Or.inr rfl) (am_lc (Or.inr rfl) (am_lc (Or.inl rfl) am_ln))))) ?_
    cases hM
    exact hx
  · refine am_ev.ke 1 87 69 [.ref 1000, .int x1, .int x2, am_ju, .int x4] [] (zl sn sx, X, xr E G Q N A U Y K H tl, q) c1 (fun _ _ => rfl) ?_
    obtain ⟨c2, hM⟩ := am_ifn hM
    refine am_ev.kc 4 76 [.ref 1000, .int x1, .int x2, am_ju, .int x4] [.int ((po_men Q) (x4).toNatClampNeg)] (zl sn sx, X, xr E G Q N A U Y K H tl, q) c2 (fun _ _ => rfl) ?_
    rcases am_if hM with ⟨c3, hM⟩ | ⟨c3, hM⟩
    · refine am_ev.kt 1 81 79 [.ref 1000, .int x1, .int x2, am_ju, .int x4] [] (zl sn sx, X, xr E G Q N A U Y K H tl, q) c3 (fun _ _ => rfl) ?_
      refine am_ev.kg 2 (pc' := 53) (lv' := [.ref 1000, .int x1, .int x2, am_ju, .int (x4 + (1 : Int32))]) (st' := []) (h' := (zl sn sx, X, xr E G Q N A U Y K H tl, q)) (fun _ _ => rfl) ?_
      exact hg _ hM
    · refine am_ev.ke 1 81 79 [.ref 1000, .int x1, .int x2, am_ju, .int x4] [] (zl sn sx, X, xr E G Q N A U Y K H tl, q) c3 (fun _ _ => rfl) ?_
      cases hM
      cases hx
      exact am_ev.kf 2 (fun _ _ => rfl)
theorem sj_M_mayCastle_112 {fu : Nat} {sn : Nat} {sx : Nat → Int32} {X : List am_C} {q : Nat × Nat} {tl : List am_C} {E : ThT} {G : RtT} {Q : PoT} {N : NuT} {A : PaT} {U : UnT} {Y : LiT} {K : KeT} {H : HlT} {s1 : Int32} {oo : am_O} {e : Int32} (hx : y_M_mayCastle sn sx X q tl E G Q N A U Y K H oo e) (hM : j_M_mayCastle_112 fu Q s1 = some e) : am_ev 6 k_M_mayCastle (112, [.ref 1000, am_ju, am_ju, am_ju, am_ju], [.int s1, .ref 1000], (zl sn sx, X, xr E G Q N A U Y K H tl, q)) oo := by
  unfold j_M_mayCastle_112 at hM
  obtain ⟨rr, hc, hM⟩ := am_bind hM
  obtain ⟨r2, rfl⟩ : ∃ z, z = rr := ⟨_, rfl⟩
  refine am_ev.kg 4 (pc' := 118) (lv' := [.ref 1000, am_ju, am_ju, am_ju, am_ju]) (st' := [.int ((1 : Int32) - (po_side Q)), .int s1, .ref 1000]) (h' := (zl sn sx, X, xr E G Q N A U Y K H tl, q)) (fun _ _ => rfl) ?_
  refine am_ev.call rfl rfl rfl ((s_M_isAttacked hc).mono (by decide)) ?_
  show am_ev _ k_M_mayCastle (121, [.ref 1000, am_ju, am_ju, am_ju, am_ju], [.int r2], (zl sn sx, X, xr E G Q N A U Y K H tl, q)) oo
  rcases am_if hM with ⟨c4, hM⟩ | ⟨c4, hM⟩
  · refine am_ev.kt 1 128 124 [.ref 1000, am_ju, am_ju, am_ju, am_ju] [] (zl sn sx, X, xr E G Q N A U Y K H tl, q) c4 (fun _ _ => rfl) ?_
    cases hM
    cases hx
    exact am_ev.kf 2 (fun _ _ => rfl)
  · refine am_ev.ke 1 128 124 [.ref 1000, am_ju, am_ju, am_ju, am_ju] [] (zl sn sx, X, xr E G Q N A U Y K H tl, q) c4 (fun _ _ => rfl) ?_
    cases hM
    cases hx
    exact am_ev.kf 3 (fun _ _ => rfl)
theorem sb_M_mayCastle_53 {fu : Nat} {sn : Nat} {sx : Nat → Int32} {X : List am_C} {q : Nat × Nat} {tl : List am_C} {E : ThT} {G : RtT} {Q : PoT} {N : NuT} {A : PaT} {U : UnT} {Y : LiT} {K : KeT} {H : HlT} {x1 : Int32} {x2 : Int32} {oo : am_O} {e : ((Unit)) ⊕ (Int32)} {gg : Int32 → Option (((Unit)) ⊕ (Int32))} (hx : x_M_mayCastle_53 sn sx X q tl E G Q N A U Y K H x1 x2 oo e) (hg : ∀ (x4 : Int32), gg x4 = some e → am_ev 6 k_M_mayCastle (53, [.ref 1000, .int x1, .int x2, am_ju, .int x4], [], (zl sn sx, X, xr E G Q N A U Y K H tl, q)) oo) {x4 : Int32} (hM : b_M_mayCastle_53 fu Q x1 x2 gg x4 = some e) : am_ev 6 k_M_mayCastle (53, [.ref 1000, .int x1, .int x2, am_ju, .int x4], [], (zl sn sx, X, xr E G Q N A U Y K H tl, q)) oo := by
  unfold b_M_mayCastle_53 at hM
  rcases am_if hM with ⟨c5, hM⟩ | ⟨c5, hM⟩
  · refine am_ev.kt 3 65 59 [.ref 1000, .int x1, .int x2, am_ju, .int x4] [.int x4] (zl sn sx, X, xr E G Q N A U Y K H tl, q) c5 (fun _ _ => rfl) ?_
    refine am_ev.kg 1 (pc' := 66) (lv' := [.ref 1000, .int x1, .int x2, am_ju, .int x4]) (st' := [.int x2, .int x4]) (h' := (zl sn sx, X, xr E G Q N A U Y K H tl, q)) (fun _ _ => rfl) ?_
    exact sj_M_mayCastle_66 hx hg hM
  · refine am_ev.ke 3 65 59 [.ref 1000, .int x1, .int x2, am_ju, .int x4] [.int x4] (zl sn sx, X, xr E G Q N A U Y K H tl, q) c5 (fun _ _ => rfl) ?_
    refine am_ev.kg 4 (pc' := 66) (lv' := [.ref 1000, .int x1, .int x2, am_ju, .int x4]) (st' := [.int (x2 + (3 : Int32)), .int x4]) (h' := (zl sn sx, X, xr E G Q N A U Y K H tl, q)) (fun _ _ => rfl) ?_
    exact sj_M_mayCastle_66 hx hg hM
theorem sl_M_mayCastle_53 {fu : Nat} {sn : Nat} {sx : Nat → Int32} {X : List am_C} {q : Nat × Nat} {tl : List am_C} {E : ThT} {G : RtT} {Q : PoT} {N : NuT} {A : PaT} {U : UnT} {Y : LiT} {K : KeT} {H : HlT} {x1 : Int32} {x2 : Int32} {oo : am_O} {e : ((Unit)) ⊕ (Int32)} (hx : x_M_mayCastle_53 sn sx X q tl E G Q N A U Y K H x1 x2 oo e) : ∀ (n : Nat) (x4 : Int32), l_M_mayCastle_53 fu Q x1 x2 n x4 = some e → am_ev 6 k_M_mayCastle (53, [.ref 1000, .int x1, .int x2, am_ju, .int x4], [], (zl sn sx, X, xr E G Q N A U Y K H tl, q)) oo
  | 0, _, hM => by have h : (none : Option (((Unit)) ⊕ (Int32))) = some e := hM; cases h
  | n + 1, _, hM => sb_M_mayCastle_53 hx (fun _ hM => sl_M_mayCastle_53 hx n _ hM) hM
theorem sj_M_mayCastle_87 {fu : Nat} {sn : Nat} {sx : Nat → Int32} {X : List am_C} {q : Nat × Nat} {tl : List am_C} {E : ThT} {G : RtT} {Q : PoT} {N : NuT} {A : PaT} {U : UnT} {Y : LiT} {K : KeT} {H : HlT} {x1 : Int32} {x2 : Int32} {oo : am_O} {e : Int32} (hx : y_M_mayCastle sn sx X q tl E G Q N A U Y K H oo e) (hM : j_M_mayCastle_87 fu Q x1 x2 = some e) : am_ev 6 k_M_mayCastle (87, [.ref 1000, .int x1, .int x2, am_ju, am_ju], [], (zl sn sx, X, xr E G Q N A U Y K H tl, q)) oo := by
  unfold j_M_mayCastle_87 at hM
  obtain ⟨rr, hc, hM⟩ := am_bind hM
  obtain ⟨r1, rfl⟩ : ∃ z, z = rr := ⟨_, rfl⟩
  refine am_ev.kg 3 (pc' := 92) (lv' := [.ref 1000, .int x1, .int x2, am_ju, am_ju]) (st' := [.int (po_side Q), .ref 1000]) (h' := (zl sn sx, X, xr E G Q N A U Y K H tl, q)) (fun _ _ => rfl) ?_
  refine am_ev.call rfl rfl rfl ((s_M_inCheck hc).mono (by decide)) ?_
  show am_ev _ k_M_mayCastle (95, [.ref 1000, .int x1, .int x2, am_ju, am_ju], [.int r1], (zl sn sx, X, xr E G Q N A U Y K H tl, q)) oo
  rcases am_if hM with ⟨c6, hM⟩ | ⟨c6, hM⟩
  · refine am_ev.kt 1 128 98 [.ref 1000, .int x1, .int x2, am_ju, am_ju] [] (zl sn sx, X, xr E G Q N A U Y K H tl, q) c6 (fun _ _ => rfl) ?_
    cases hM
    cases hx
    exact am_ev.kf 2 (fun _ _ => rfl)
  · refine am_ev.ke 1 128 98 [.ref 1000, .int x1, .int x2, am_ju, am_ju] [] (zl sn sx, X, xr E G Q N A U Y K H tl, q) c6 (fun _ _ => rfl) ?_
    rcases am_if hM with ⟨c7, hM⟩ | ⟨c7, hM⟩
    · refine am_ev.kt 3 109 103 [.ref 1000, .int x1, .int x2, am_ju, am_ju] [.ref 1000] (zl sn sx, X, xr E G Q N A U Y K H tl, q) c7 (fun _ _ => rfl) ?_
      refine am_ev.kg 3 (pc' := 112) (lv' := [.ref 1000, .int x1, .int x2, am_ju, am_ju]) (st' := [.int (x2 - (1 : Int32)), .ref 1000]) (h' := (zl sn sx, X, xr E G Q N A U Y K H tl, q)) (fun _ _ => rfl) ?_
      refine am_ev.wk (lv' := [.ref 1000, am_ju, am_ju, am_ju, am_ju]) (am_lc (Or.inr rfl) (am_lc (Or.inl rfl) (am_lc (Or.inl rfl) (am_lc (Or.inr rfl) (am_lc (Or.inr rfl) am_ln))))) ?_
      exact sj_M_mayCastle_112 hx hM
    · refine am_ev.ke 3 109 103 [.ref 1000, .int x1, .int x2, am_ju, am_ju] [.ref 1000] (zl sn sx, X, xr E G Q N A U Y K H tl, q) c7 (fun _ _ => rfl) ?_
      refine am_ev.kg 4 (pc' := 112) (lv' := [.ref 1000, .int x1, .int x2, am_ju, am_ju]) (st' := [.int (x2 + (1 : Int32)), .ref 1000]) (h' := (zl sn sx, X, xr E G Q N A U Y K H tl, q)) (fun _ _ => rfl) ?_
      refine am_ev.wk (lv' := [.ref 1000, am_ju, am_ju, am_ju, am_ju]) (am_lc (Or.inr rfl) (am_lc (Or.inl rfl) (am_lc (Or.inl rfl) (am_lc (Or.inr rfl) (am_lc (Or.inr rfl) am_ln))))) ?_
      exact sj_M_mayCastle_112 hx hM
theorem sj_M_mayCastle_51 {fu : Nat} {sn : Nat} {sx : Nat → Int32} {X : List am_C} {q : Nat × Nat} {tl : List am_C} {E : ThT} {G : RtT} {Q : PoT} {N : NuT} {A : PaT} {U : UnT} {Y : LiT} {K : KeT} {H : HlT} {x1 : Int32} {x2 : Int32} {s0 : Int32} {oo : am_O} {e : Int32} (hx : y_M_mayCastle sn sx X q tl E G Q N A U Y K H oo e) (hM : j_M_mayCastle_51 fu Q x1 x2 s0 = some e) : am_ev 6 k_M_mayCastle (51, [.ref 1000, .int x1, .int x2, am_ju, am_ju], [.int s0], (zl sn sx, X, xr E G Q N A U Y K H tl, q)) oo := by
  unfold j_M_mayCastle_51 at hM
  refine am_ev.kg 1 (pc' := 53) (lv' := [.ref 1000, .int x1, .int x2, am_ju, .int s0]) (st' := []) (h' := (zl sn sx, X, xr E G Q N A U Y K H tl, q)) (fun _ _ => rfl) ?_
  obtain ⟨z, hz, hM⟩ := am_bind hM
  rcases z with z | z
  ·
    refine sl_M_mayCastle_53 ?_ _ _ hz
    show am_ev 6 k_M_mayCastle (87, [.ref 1000, .int x1, .int x2, am_ju, am_ju], [], (zl sn sx, X, xr E G Q N A U Y K H tl, q)) oo
    exact sj_M_mayCastle_87 hx hM
  ·
    cases hM
    refine sl_M_mayCastle_53 ?_ _ _ hz
    exact hx
theorem sj_M_mayCastle_19 {fu : Nat} {sn : Nat} {sx : Nat → Int32} {X : List am_C} {q : Nat × Nat} {tl : List am_C} {E : ThT} {G : RtT} {Q : PoT} {N : NuT} {A : PaT} {U : UnT} {Y : LiT} {K : KeT} {H : HlT} {x1 : Int32} {x2 : Int32} {s0 : Int32} {oo : am_O} {e : Int32} (hx : y_M_mayCastle sn sx X q tl E G Q N A U Y K H oo e) (hM : j_M_mayCastle_19 fu Q x1 x2 s0 = some e) : am_ev 6 k_M_mayCastle (19, [.ref 1000, .int x1, .int x2, am_ju, am_ju], [.int s0], (zl sn sx, X, xr E G Q N A U Y K H tl, q)) oo := by
  unfold j_M_mayCastle_19 at hM
  rcases am_if hM with ⟨c8, hM⟩ | ⟨c8, hM⟩
  · refine am_ev.kt 11 38 36 [.ref 1000, .int x1, .int x2, .int (s0 <<< (((2 : Int32) * (po_side Q)) &&& 31)), am_ju] [] (zl sn sx, X, xr E G Q N A U Y K H tl, q) c8 (fun _ _ => rfl) ?_
    rcases am_if hM with ⟨c9, hM⟩ | ⟨c9, hM⟩
    · refine am_ev.kt 2 48 42 [.ref 1000, .int x1, .int x2, .int (s0 <<< (((2 : Int32) * (po_side Q)) &&& 31)), am_ju] [] (zl sn sx, X, xr E G Q N A U Y K H tl, q) c9 (fun _ _ => rfl) ?_
      refine am_ev.kg 3 (pc' := 51) (lv' := [.ref 1000, .int x1, .int x2, .int (s0 <<< (((2 : Int32) * (po_side Q)) &&& 31)), am_ju]) (st' := [.int (x2 - (3 : Int32))]) (h' := (zl sn sx, X, xr E G Q N A U Y K H tl, q)) (fun _ _ => rfl) ?_
      refine am_ev.wk (lv' := [.ref 1000, .int x1, .int x2, am_ju, am_ju]) (am_lc (Or.inr rfl) (am_lc (Or.inr rfl) (am_lc (Or.inr rfl) (am_lc (Or.inl rfl) (am_lc (Or.inr rfl) am_ln))))) ?_
      exact sj_M_mayCastle_51 hx hM
    · refine am_ev.ke 2 48 42 [.ref 1000, .int x1, .int x2, .int (s0 <<< (((2 : Int32) * (po_side Q)) &&& 31)), am_ju] [] (zl sn sx, X, xr E G Q N A U Y K H tl, q) c9 (fun _ _ => rfl) ?_
      refine am_ev.kg 4 (pc' := 51) (lv' := [.ref 1000, .int x1, .int x2, .int (s0 <<< (((2 : Int32) * (po_side Q)) &&& 31)), am_ju]) (st' := [.int (x2 + (1 : Int32))]) (h' := (zl sn sx, X, xr E G Q N A U Y K H tl, q)) (fun _ _ => rfl) ?_
      refine am_ev.wk (lv' := [.ref 1000, .int x1, .int x2, am_ju, am_ju]) (am_lc (Or.inr rfl) (am_lc (Or.inr rfl) (am_lc (Or.inr rfl) (am_lc (Or.inl rfl) (am_lc (Or.inr rfl) am_ln))))) ?_
      exact sj_M_mayCastle_51 hx hM
  · refine am_ev.ke 11 38 36 [.ref 1000, .int x1, .int x2, .int (s0 <<< (((2 : Int32) * (po_side Q)) &&& 31)), am_ju] [] (zl sn sx, X, xr E G Q N A U Y K H tl, q) c8 (fun _ _ => rfl) ?_
    cases hM
    cases hx
    exact am_ev.kf 2 (fun _ _ => rfl)
theorem se_M_mayCastle {fu : Nat} {sn : Nat} {sx : Nat → Int32} {X : List am_C} {q : Nat × Nat} {tl : List am_C} {E : ThT} {G : RtT} {Q : PoT} {N : NuT} {A : PaT} {U : UnT} {Y : LiT} {K : KeT} {H : HlT} {x1 : Int32} {oo : am_O} {e : Int32} (hx : y_M_mayCastle sn sx X q tl E G Q N A U Y K H oo e) (hM : f_M_mayCastle fu x1 Q = some e) : am_ev 6 k_M_mayCastle (0, [.ref 1000, .int x1, am_ju, am_ju, am_ju], [], (zl sn sx, X, xr E G Q N A U Y K H tl, q)) oo := by
  unfold f_M_mayCastle at hM
  rcases am_if hM with ⟨c10, hM⟩ | ⟨c10, hM⟩
  · refine am_ev.kt 9 18 14 [.ref 1000, .int x1, .int (((56 : Int32) * (po_side Q)) + (4 : Int32)), am_ju, am_ju] [] (zl sn sx, X, xr E G Q N A U Y K H tl, q) c10 (fun _ _ => rfl) ?_
    refine am_ev.kg 1 (pc' := 19) (lv' := [.ref 1000, .int x1, .int (((56 : Int32) * (po_side Q)) + (4 : Int32)), am_ju, am_ju]) (st' := [.int (2 : Int32)]) (h' := (zl sn sx, X, xr E G Q N A U Y K H tl, q)) (fun _ _ => rfl) ?_
    exact sj_M_mayCastle_19 hx hM
  · refine am_ev.ke 9 18 14 [.ref 1000, .int x1, .int (((56 : Int32) * (po_side Q)) + (4 : Int32)), am_ju, am_ju] [] (zl sn sx, X, xr E G Q N A U Y K H tl, q) c10 (fun _ _ => rfl) ?_
    refine am_ev.kg 2 (pc' := 19) (lv' := [.ref 1000, .int x1, .int (((56 : Int32) * (po_side Q)) + (4 : Int32)), am_ju, am_ju]) (st' := [.int (1 : Int32)]) (h' := (zl sn sx, X, xr E G Q N A U Y K H tl, q)) (fun _ _ => rfl) ?_
    exact sj_M_mayCastle_19 hx hM
theorem s_M_mayCastle {fu : Nat} {sn : Nat} {sx : Nat → Int32} {X : List am_C} {q : Nat × Nat} {tl : List am_C} {E : ThT} {G : RtT} {Q : PoT} {N : NuT} {A : PaT} {U : UnT} {Y : LiT} {K : KeT} {H : HlT} {x1 : Int32} {ov : Int32} (hM : f_M_mayCastle fu x1 Q = some ov) : am_cv 7 k_M_mayCastle [.ref 1000, .int x1] (zl sn sx, X, xr E G Q N A U Y K H tl, q) (.inl (some (.int ov)), (zl sn sx, X, xr E G Q N A U Y K H tl, q)) := am_cv.of rfl (se_M_mayCastle (e := ov) (show y_M_mayCastle sn sx X q tl E G Q N A U Y K H _ ov from rfl) hM)
def y_M_bit (sn : Nat) (sx : Nat → Int32) (X : List am_C) (q : Nat × Nat) (tl : List am_C) (E : ThT) (G : RtT) (Q : PoT) (N : NuT) (A : PaT) (U : UnT) (Y : LiT) (K : KeT) (H : HlT) (oo : am_O) : Int64 → Prop
  | ov => oo = (.inl (some (.long ov)), (zl sn sx, X, xr E G Q N A U Y K H tl, q))
theorem se_M_bit {sn : Nat} {sx : Nat → Int32} {X : List am_C} {q : Nat × Nat} {tl : List am_C} {E : ThT} {G : RtT} {Q : PoT} {N : NuT} {A : PaT} {U : UnT} {Y : LiT} {K : KeT} {H : HlT} {x0 : Int32} {oo : am_O} {e : Int64} (hx : y_M_bit sn sx X q tl E G Q N A U Y K H oo e) (hM : f_M_bit x0 = some e) : am_ev 1 k_M_bit (0, [.int x0], [], (zl sn sx, X, xr E G Q N A U Y K H tl, q)) oo := by
  unfold f_M_bit at hM
  rcases am_if hM with ⟨c1, hM⟩ | ⟨c1, hM⟩
  · refine am_ev.kt 2 8 4 [.int x0] [] (zl sn sx, X, xr E G Q N A U Y K H tl, q) c1 (fun _ _ => rfl) ?_
    cases hM
    cases hx
    exact am_ev.kf 4 (fun _ _ => rfl)
  · refine am_ev.ke 2 8 4 [.int x0] [] (zl sn sx, X, xr E G Q N A U Y K H tl, q) c1 (fun _ _ => rfl) ?_
    cases hM
    cases hx
    exact am_ev.kf 3 (fun _ _ => rfl)
theorem s_M_bit {sn : Nat} {sx : Nat → Int32} {X : List am_C} {q : Nat × Nat} {tl : List am_C} {E : ThT} {G : RtT} {Q : PoT} {N : NuT} {A : PaT} {U : UnT} {Y : LiT} {K : KeT} {H : HlT} {x0 : Int32} {ov : Int64} (hM : f_M_bit x0 = some ov) : am_cv 2 k_M_bit [.int x0] (zl sn sx, X, xr E G Q N A U Y K H tl, q) (.inl (some (.long ov)), (zl sn sx, X, xr E G Q N A U Y K H tl, q)) := am_cv.of rfl (se_M_bit (e := ov) (show y_M_bit sn sx X q tl E G Q N A U Y K H _ ov from rfl) hM)
def y_M_walk (sn : Nat) (sx : Nat → Int32) (X : List am_C) (q : Nat × Nat) (tl : List am_C) (E : ThT) (G : RtT) (Q : PoT) (N : NuT) (A : PaT) (U : UnT) (Y : LiT) (K : KeT) (H : HlT) (oo : am_O) : Int64 → Prop
  | ov => oo = (.inl (some (.long ov)), (zl sn sx, X, xr E G Q N A U Y K H tl, q))
def x_M_walk_11 (sn : Nat) (sx : Nat → Int32) (X : List am_C) (q : Nat × Nat) (tl : List am_C) (E : ThT) (G : RtT) (Q : PoT) (N : NuT) (A : PaT) (U : UnT) (Y : LiT) (K : KeT) (H : HlT) (x2 : Int32) (x3 : Int32) (oo : am_O) : Int64 → Prop
  | ov => oo = (.inl (some (.long ov)), (zl sn sx, X, xr E G Q N A U Y K H tl, q))
theorem sj_M_walk_47 {fu : Nat} {sn : Nat} {sx : Nat → Int32} {X : List am_C} {q : Nat × Nat} {tl : List am_C} {E : ThT} {G : RtT} {Q : PoT} {N : NuT} {A : PaT} {U : UnT} {Y : LiT} {K : KeT} {H : HlT} {x2 : Int32} {x3 : Int32} {l4 : Int64} {s0 : Int32} {oo : am_O} {e : Int64} {gg : Int64 → Int32 → Option (Int64)} (hx : x_M_walk_11 sn sx X q tl E G Q N A U Y K H x2 x3 oo e) (hg : ∀ (l4 : Int64) (x6 : Int32), gg l4 x6 = some e → am_ev 3 k_M_walk (11, [.ref 1000, am_ju, .int x2, .int x3, .long l4, am_ju, .int x6], [], (zl sn sx, X, xr E G Q N A U Y K H tl, q)) oo) (hM : j_M_walk_47 fu gg Q x2 x3 l4 s0 = some e) : am_ev 3 k_M_walk (47, [.ref 1000, am_ju, .int x2, .int x3, .long l4, am_ju, am_ju], [.int s0], (zl sn sx, X, xr E G Q N A U Y K H tl, q)) oo := by
  unfold j_M_walk_47 at hM
  refine am_ev.kg 2 (pc' := 11) (lv' := [.ref 1000, am_ju, .int x2, .int x3, .long l4, am_ju, .int s0]) (st' := []) (h' := (zl sn sx, X, xr E G Q N A U Y K H tl, q)) (fun _ _ => rfl) ?_
  exact hg _ _ hM
theorem sb_M_walk_11 {fu : Nat} {sn : Nat} {sx : Nat → Int32} {X : List am_C} {q : Nat × Nat} {tl : List am_C} {E : ThT} {G : RtT} {Q : PoT} {N : NuT} {A : PaT} {U : UnT} {Y : LiT} {K : KeT} {H : HlT} {x2 : Int32} {x3 : Int32} {oo : am_O} {e : Int64} {gg : Int64 → Int32 → Option (Int64)} (hx : x_M_walk_11 sn sx X q tl E G Q N A U Y K H x2 x3 oo e) (hg : ∀ (l4 : Int64) (x6 : Int32), gg l4 x6 = some e → am_ev 3 k_M_walk (11, [.ref 1000, am_ju, .int x2, .int x3, .long l4, am_ju, .int x6], [], (zl sn sx, X, xr E G Q N A U Y K H tl, q)) oo) {l4 : Int64} {x6 : Int32} (hM : b_M_walk_11 fu Q x2 x3 gg l4 x6 = some e) : am_ev 3 k_M_walk (11, [.ref 1000, am_ju, .int x2, .int x3, .long l4, am_ju, .int x6], [], (zl sn sx, X, xr E G Q N A U Y K H tl, q)) oo := by
  unfold b_M_walk_11 at hM
  rcases am_if hM with ⟨c1, hM⟩ | ⟨c1, hM⟩
  · refine am_ev.kt 2 52 16 [.ref 1000, am_ju, .int x2, .int x3, .long l4, am_ju, .int x6] [] (zl sn sx, X, xr E G Q N A U Y K H tl, q) c1 (fun _ _ => rfl) ?_
    cases hM
    cases hx
    exact am_ev.kf 2 (fun _ _ => rfl)
  · refine am_ev.ke 2 52 16 [.ref 1000, am_ju, .int x2, .int x3, .long l4, am_ju, .int x6] [] (zl sn sx, X, xr E G Q N A U Y K H tl, q) c1 (fun _ _ => rfl) ?_
    obtain ⟨rr, hc, hM⟩ := am_bind hM
    obtain ⟨r2, rfl⟩ : ∃ z, z = rr := ⟨_, rfl⟩
    refine am_ev.kg 2 (pc' := 20) (lv' := [.ref 1000, am_ju, .int x2, .int x3, .long l4, am_ju, .int x6]) (st' := [.int x6, .long l4]) (h' := (zl sn sx, X, xr E G Q N A U Y K H tl, q)) (fun _ _ => rfl) ?_
    refine am_ev.call rfl rfl rfl ((s_M_bit hc).mono (by decide)) ?_
    show am_ev _ k_M_walk (23, [.ref 1000, am_ju, .int x2, .int x3, .long l4, am_ju, .int x6], [.long r2, .long l4], (zl sn sx, X, xr E G Q N A U Y K H tl, q)) oo
    obtain ⟨c2, hM⟩ := am_ifn hM
    refine am_ev.kc 6 33 [.ref 1000, am_ju, .int x2, .int x3, .long (l4 ||| r2), am_ju, .int x6] [.int ((po_men Q) (x6).toNatClampNeg)] (zl sn sx, X, xr E G Q N A U Y K H tl, q) c2 (fun _ _ => rfl) ?_
    rcases am_if hM with ⟨c3, hM⟩ | ⟨c3, hM⟩
    · refine am_ev.kt 1 46 36 [.ref 1000, am_ju, .int x2, .int x3, .long (l4 ||| r2), am_ju, .int x6] [] (zl sn sx, X, xr E G Q N A U Y K H tl, q) c3 (fun _ _ => rfl) ?_
      refine am_ev.kg 1 (pc' := 47) (lv' := [.ref 1000, am_ju, .int x2, .int x3, .long (l4 ||| r2), am_ju, .int x6]) (st' := [.int (-1 : Int32)]) (h' := (zl sn sx, X, xr E G Q N A U Y K H tl, q)) (fun _ _ => rfl) ?_
      refine am_ev.wk (lv' := [.ref 1000, am_ju, .int x2, .int x3, .long (l4 ||| r2), am_ju, am_ju]) (am_lc (Or.inr rfl) (am_lc (Or.inr rfl) (am_lc (Or.inr rfl) (am_lc (Or.inr rfl) (am_lc (Or.inr rfl) (am_lc (Or.inr rfl) (am_lc (Or.inl rfl) am_ln))))))) ?_
      exact sj_M_walk_47 hx hg hM
    · refine am_ev.ke 1 46 36 [.ref 1000, am_ju, .int x2, .int x3, .long (l4 ||| r2), am_ju, .int x6] [] (zl sn sx, X, xr E G Q N A U Y K H tl, q) c3 (fun _ _ => rfl) ?_
      obtain ⟨rr, hc, hM⟩ := am_bind hM
      obtain ⟨r3, rfl⟩ : ∃ z, z = rr := ⟨_, rfl⟩
      refine am_ev.kg 3 (pc' := 40) (lv' := [.ref 1000, am_ju, .int x2, .int x3, .long (l4 ||| r2), am_ju, .int x6]) (st' := [.int x3, .int x2, .int x6]) (h' := (zl sn sx, X, xr E G Q N A U Y K H tl, q)) (fun _ _ => rfl) ?_
      refine am_ev.call rfl rfl rfl ((s_M_step hc).mono (by decide)) ?_
      show am_ev _ k_M_walk (43, [.ref 1000, am_ju, .int x2, .int x3, .long (l4 ||| r2), am_ju, .int x6], [.int r3], (zl sn sx, X, xr E G Q N A U Y K H tl, q)) oo
      refine am_ev.kg 1 (pc' := 47) (lv' := [.ref 1000, am_ju, .int x2, .int x3, .long (l4 ||| r2), am_ju, .int x6]) (st' := [.int r3]) (h' := (zl sn sx, X, xr E G Q N A U Y K H tl, q)) (fun _ _ => rfl) ?_
      refine am_ev.wk (lv' := [.ref 1000, am_ju, .int x2, .int x3, .long (l4 ||| r2), am_ju, am_ju]) (am_lc (Or.inr rfl) (am_lc (Or.inr rfl) (am_lc (Or.inr rfl) (am_lc (Or.inr rfl) (am_lc (Or.inr rfl) (am_lc (Or.inr rfl) (am_lc (Or.inl rfl) am_ln))))))) ?_
      exact sj_M_walk_47 hx hg hM
theorem sl_M_walk_11 {fu : Nat} {sn : Nat} {sx : Nat → Int32} {X : List am_C} {q : Nat × Nat} {tl : List am_C} {E : ThT} {G : RtT} {Q : PoT} {N : NuT} {A : PaT} {U : UnT} {Y : LiT} {K : KeT} {H : HlT} {x2 : Int32} {x3 : Int32} {oo : am_O} {e : Int64} (hx : x_M_walk_11 sn sx X q tl E G Q N A U Y K H x2 x3 oo e) : ∀ (n : Nat) (l4 : Int64) (x6 : Int32), l_M_walk_11 fu Q x2 x3 n l4 x6 = some e → am_ev 3 k_M_walk (11, [.ref 1000, am_ju, .int x2, .int x3, .long l4, am_ju, .int x6], [], (zl sn sx, X, xr E G Q N A U Y K H tl, q)) oo
  | 0, _, _, hM => by have h : (none : Option (Int64)) = some e := hM; cases h
  | n + 1, _, _, hM => sb_M_walk_11 hx (fun _ _ hM => sl_M_walk_11 hx n _ _ hM) hM
theorem se_M_walk {fu : Nat} {sn : Nat} {sx : Nat → Int32} {X : List am_C} {q : Nat × Nat} {tl : List am_C} {E : ThT} {G : RtT} {Q : PoT} {N : NuT} {A : PaT} {U : UnT} {Y : LiT} {K : KeT} {H : HlT} {x1 : Int32} {x2 : Int32} {x3 : Int32} {oo : am_O} {e : Int64} (hx : y_M_walk sn sx X q tl E G Q N A U Y K H oo e) (hM : f_M_walk fu x1 x2 x3 Q = some e) : am_ev 3 k_M_walk (0, [.ref 1000, .int x1, .int x2, .int x3, am_ju, am_ju, am_ju], [], (zl sn sx, X, xr E G Q N A U Y K H tl, q)) oo := by
  unfold f_M_walk at hM
  obtain ⟨rr, hc, hM⟩ := am_bind hM
  obtain ⟨r1, rfl⟩ : ∃ z, z = rr := ⟨_, rfl⟩
  refine am_ev.kg 5 (pc' := 6) (lv' := [.ref 1000, .int x1, .int x2, .int x3, .long (0 : Int64), am_ju, am_ju]) (st' := [.int x3, .int x2, .int x1]) (h' := (zl sn sx, X, xr E G Q N A U Y K H tl, q)) (fun _ _ => rfl) ?_
  refine am_ev.call rfl rfl rfl ((s_M_step hc).mono (by decide)) ?_
  show am_ev _ k_M_walk (9, [.ref 1000, .int x1, .int x2, .int x3, .long (0 : Int64), am_ju, am_ju], [.int r1], (zl sn sx, X, xr E G Q N A U Y K H tl, q)) oo
  refine am_ev.kg 1 (pc' := 11) (lv' := [.ref 1000, .int x1, .int x2, .int x3, .long (0 : Int64), am_ju, .int r1]) (st' := []) (h' := (zl sn sx, X, xr E G Q N A U Y K H tl, q)) (fun _ _ => rfl) ?_
  refine am_ev.wk (lv' := [.ref 1000, am_ju, .int x2, .int x3, .long (0 : Int64), am_ju, .int r1]) (am_lc (Or.inr rfl) (am_lc (Or.inl rfl) (am_lc (Or.inr rfl) (am_lc (Or.inr rfl) (am_lc (Or.inr rfl) (am_lc (Or.inr rfl) (am_lc (Or.inr rfl) am_ln))))))) ?_
  refine sl_M_walk_11 ?_ _ _ _ hM
  exact hx
theorem s_M_walk {fu : Nat} {sn : Nat} {sx : Nat → Int32} {X : List am_C} {q : Nat × Nat} {tl : List am_C} {E : ThT} {G : RtT} {Q : PoT} {N : NuT} {A : PaT} {U : UnT} {Y : LiT} {K : KeT} {H : HlT} {x1 : Int32} {x2 : Int32} {x3 : Int32} {ov : Int64} (hM : f_M_walk fu x1 x2 x3 Q = some ov) : am_cv 4 k_M_walk [.ref 1000, .int x1, .int x2, .int x3] (zl sn sx, X, xr E G Q N A U Y K H tl, q) (.inl (some (.long ov)), (zl sn sx, X, xr E G Q N A U Y K H tl, q)) := am_cv.of rfl (se_M_walk (e := ov) (show y_M_walk sn sx X q tl E G Q N A U Y K H _ ov from rfl) hM)
def y_M_reach (sn : Nat) (sx : Nat → Int32) (X : List am_C) (q : Nat × Nat) (tl : List am_C) (E : ThT) (G : RtT) (Q : PoT) (N : NuT) (A : PaT) (U : UnT) (Y : LiT) (K : KeT) (H : HlT) (oo : am_O) : Int64 → Prop
  | ov => oo = (.inl (some (.long ov)), (zl sn sx, X, xr E G Q N A U Y K H tl, q))
def x_M_reach_26 (sn : Nat) (sx : Nat → Int32) (X : List am_C) (q : Nat × Nat) (tl : List am_C) (E : ThT) (G : RtT) (Q : PoT) (N : NuT) (A : PaT) (U : UnT) (Y : LiT) (K : KeT) (H : HlT) (x1 : Int32) (x2 : Int32) (x5 : Int32) (oo : am_O) : (Int64) → Prop
  | l3 => am_ev 4 k_M_reach (138, [.ref 1000, .int x1, .int x2, .long l3, am_ju, .int x5, am_ju, am_ju], [], (zl sn sx, X, xr E G Q N A U Y K H tl, q)) oo
def x_M_reach_16 (sn : Nat) (sx : Nat → Int32) (X : List am_C) (q : Nat × Nat) (tl : List am_C) (E : ThT) (G : RtT) (Q : PoT) (N : NuT) (A : PaT) (U : UnT) (Y : LiT) (K : KeT) (H : HlT) (x1 : Int32) (x2 : Int32) (oo : am_O) : Int64 → Prop
  | ov => oo = (.inl (some (.long ov)), (zl sn sx, X, xr E G Q N A U Y K H tl, q))
theorem sj_M_reach_138 {fu : Nat} {sn : Nat} {sx : Nat → Int32} {X : List am_C} {q : Nat × Nat} {tl : List am_C} {E : ThT} {G : RtT} {Q : PoT} {N : NuT} {A : PaT} {U : UnT} {Y : LiT} {K : KeT} {H : HlT} {x1 : Int32} {x2 : Int32} {l3 : Int64} {x5 : Int32} {oo : am_O} {e : Int64} {gg : Int64 → Int32 → Option (Int64)} (hx : x_M_reach_16 sn sx X q tl E G Q N A U Y K H x1 x2 oo e) (hg : ∀ (l3 : Int64) (x5 : Int32), gg l3 x5 = some e → am_ev 4 k_M_reach (16, [.ref 1000, .int x1, .int x2, .long l3, am_ju, .int x5, am_ju, am_ju], [], (zl sn sx, X, xr E G Q N A U Y K H tl, q)) oo) (hM : j_M_reach_138 fu gg Q x1 x2 l3 x5 = some e) : am_ev 4 k_M_reach (138, [.ref 1000, .int x1, .int x2, .long l3, am_ju, .int x5, am_ju, am_ju], [], (zl sn sx, X, xr E G Q N A U Y K H tl, q)) oo := by
  unfold j_M_reach_138 at hM
  refine am_ev.kg 2 (pc' := 16) (lv' := [.ref 1000, .int x1, .int x2, .long l3, am_ju, .int (x5 + (1 : Int32)), am_ju, am_ju]) (st' := []) (h' := (zl sn sx, X, xr E G Q N A U Y K H tl, q)) (fun _ _ => rfl) ?_
  exact hg _ _ hM
theorem sj_M_reach_132 {fu : Nat} {sn : Nat} {sx : Nat → Int32} {X : List am_C} {q : Nat × Nat} {tl : List am_C} {E : ThT} {G : RtT} {Q : PoT} {N : NuT} {A : PaT} {U : UnT} {Y : LiT} {K : KeT} {H : HlT} {x1 : Int32} {x2 : Int32} {l3 : Int64} {x5 : Int32} {x6 : Int32} {oo : am_O} {e : (Int64)} {gg : Int64 → Int32 → Option ((Int64))} (hx : x_M_reach_26 sn sx X q tl E G Q N A U Y K H x1 x2 x5 oo e) (hg : ∀ (l3 : Int64) (x6 : Int32), gg l3 x6 = some e → am_ev 4 k_M_reach (26, [.ref 1000, .int x1, .int x2, .long l3, am_ju, .int x5, .int x6, am_ju], [], (zl sn sx, X, xr E G Q N A U Y K H tl, q)) oo) (hM : j_M_reach_132 fu gg Q x1 x2 l3 x5 x6 = some e) : am_ev 4 k_M_reach (132, [.ref 1000, .int x1, .int x2, .long l3, am_ju, .int x5, .int x6, am_ju], [], (zl sn sx, X, xr E G Q N A U Y K H tl, q)) oo := by
  unfold j_M_reach_132 at hM
  refine am_ev.kg 2 (pc' := 26) (lv' := [.ref 1000, .int x1, .int x2, .long l3, am_ju, .int x5, .int (x6 + (1 : Int32)), am_ju]) (st' := []) (h' := (zl sn sx, X, xr E G Q N A U Y K H tl, q)) (fun _ _ => rfl) ?_
  exact hg _ _ hM
theorem sj_M_reach_120 {fu : Nat} {sn : Nat} {sx : Nat → Int32} {X : List am_C} {q : Nat × Nat} {tl : List am_C} {E : ThT} {G : RtT} {Q : PoT} {N : NuT} {A : PaT} {U : UnT} {Y : LiT} {K : KeT} {H : HlT} {x1 : Int32} {x2 : Int32} {l3 : Int64} {x5 : Int32} {x6 : Int32} {oo : am_O} {e : (Int64)} {gg : Int64 → Int32 → Option ((Int64))} (hx : x_M_reach_26 sn sx X q tl E G Q N A U Y K H x1 x2 x5 oo e) (hg : ∀ (l3 : Int64) (x6 : Int32), gg l3 x6 = some e → am_ev 4 k_M_reach (26, [.ref 1000, .int x1, .int x2, .long l3, am_ju, .int x5, .int x6, am_ju], [], (zl sn sx, X, xr E G Q N A U Y K H tl, q)) oo) (hM : j_M_reach_120 fu gg Q x1 x2 l3 x5 x6 = some e) : am_ev 4 k_M_reach (120, [.ref 1000, .int x1, .int x2, .long l3, am_ju, .int x5, .int x6, am_ju], [], (zl sn sx, X, xr E G Q N A U Y K H tl, q)) oo := by
  unfold j_M_reach_120 at hM
  obtain ⟨rr, hc, hM⟩ := am_bind hM
  obtain ⟨r4, rfl⟩ : ∃ z, z = rr := ⟨_, rfl⟩
  refine am_ev.kg 5 (pc' := 127) (lv' := [.ref 1000, .int x1, .int x2, .long l3, am_ju, .int x5, .int x6, am_ju]) (st' := [.int x6, .int x5, .int x1, .ref 1000, .long l3]) (h' := (zl sn sx, X, xr E G Q N A U Y K H tl, q)) (fun _ _ => rfl) ?_
  refine am_ev.call rfl rfl rfl ((s_M_walk hc).mono (by decide)) ?_
  show am_ev _ k_M_reach (130, [.ref 1000, .int x1, .int x2, .long l3, am_ju, .int x5, .int x6, am_ju], [.long r4, .long l3], (zl sn sx, X, xr E G Q N A U Y K H tl, q)) oo
  refine am_ev.kg 2 (pc' := 132) (lv' := [.ref 1000, .int x1, .int x2, .long (l3 ||| r4), am_ju, .int x5, .int x6, am_ju]) (st' := []) (h' := (zl sn sx, X, xr E G Q N A U Y K H tl, q)) (fun _ _ => rfl) ?_
  exact sj_M_reach_132 hx hg hM
theorem sj_M_reach_104 {fu : Nat} {sn : Nat} {sx : Nat → Int32} {X : List am_C} {q : Nat × Nat} {tl : List am_C} {E : ThT} {G : RtT} {Q : PoT} {N : NuT} {A : PaT} {U : UnT} {Y : LiT} {K : KeT} {H : HlT} {x1 : Int32} {x2 : Int32} {l3 : Int64} {x5 : Int32} {x6 : Int32} {x7 : Int32} {oo : am_O} {e : (Int64)} {gg : Int64 → Int32 → Option ((Int64))} (hx : x_M_reach_26 sn sx X q tl E G Q N A U Y K H x1 x2 x5 oo e) (hg : ∀ (l3 : Int64) (x6 : Int32), gg l3 x6 = some e → am_ev 4 k_M_reach (26, [.ref 1000, .int x1, .int x2, .long l3, am_ju, .int x5, .int x6, am_ju], [], (zl sn sx, X, xr E G Q N A U Y K H tl, q)) oo) (hM : j_M_reach_104 fu gg Q x1 x2 l3 x5 x6 x7 = some e) : am_ev 4 k_M_reach (104, [.ref 1000, .int x1, .int x2, .long l3, am_ju, .int x5, .int x6, .int x7], [], (zl sn sx, X, xr E G Q N A U Y K H tl, q)) oo := by
  unfold j_M_reach_104 at hM
  rcases am_if hM with ⟨c1, hM⟩ | ⟨c1, hM⟩
  · refine am_ev.kt 3 132 110 [.ref 1000, .int x1, .int x2, .long l3, am_ju, .int x5, .int x6, .int x7] [] (zl sn sx, X, xr E G Q N A U Y K H tl, q) c1 (fun _ _ => rfl) ?_
    refine am_ev.wk (lv' := [.ref 1000, .int x1, .int x2, .long l3, am_ju, .int x5, .int x6, am_ju]) (am_lc (Or.inr rfl) (am_lc (Or.inr rfl) (am_lc (Or.inr rfl) (am_lc (Or.inr rfl) (am_lc (Or.inr rfl) (am_lc (Or.inr rfl) (am_lc (Or.inr rfl) (am_lc (Or.inl rfl) am_ln)))))))) ?_
    exact sj_M_reach_132 hx hg hM
  · refine am_ev.ke 3 132 110 [.ref 1000, .int x1, .int x2, .long l3, am_ju, .int x5, .int x6, .int x7] [] (zl sn sx, X, xr E G Q N A U Y K H tl, q) c1 (fun _ _ => rfl) ?_
    rcases am_if hM with ⟨c2, hM⟩ | ⟨c2, hM⟩
    · refine am_ev.kt 3 120 115 [.ref 1000, .int x1, .int x2, .long l3, am_ju, .int x5, .int x6, .int x7] [] (zl sn sx, X, xr E G Q N A U Y K H tl, q) c2 (fun _ _ => rfl) ?_
      refine am_ev.wk (lv' := [.ref 1000, .int x1, .int x2, .long l3, am_ju, .int x5, .int x6, am_ju]) (am_lc (Or.inr rfl) (am_lc (Or.inr rfl) (am_lc (Or.inr rfl) (am_lc (Or.inr rfl) (am_lc (Or.inr rfl) (am_lc (Or.inr rfl) (am_lc (Or.inr rfl) (am_lc (Or.inl rfl) am_ln)))))))) ?_
      exact sj_M_reach_120 hx hg hM
    · refine am_ev.ke 3 120 115 [.ref 1000, .int x1, .int x2, .long l3, am_ju, .int x5, .int x6, .int x7] [] (zl sn sx, X, xr E G Q N A U Y K H tl, q) c2 (fun _ _ => rfl) ?_
      rcases am_if hM with ⟨c3, hM⟩ | ⟨c3, hM⟩
      · refine am_ev.kt 3 132 120 [.ref 1000, .int x1, .int x2, .long l3, am_ju, .int x5, .int x6, .int x7] [] (zl sn sx, X, xr E G Q N A U Y K H tl, q) c3 (fun _ _ => rfl) ?_
        refine am_ev.wk (lv' := [.ref 1000, .int x1, .int x2, .long l3, am_ju, .int x5, .int x6, am_ju]) (am_lc (Or.inr rfl) (am_lc (Or.inr rfl) (am_lc (Or.inr rfl) (am_lc (Or.inr rfl) (am_lc (Or.inr rfl) (am_lc (Or.inr rfl) (am_lc (Or.inr rfl) (am_lc (Or.inl rfl) am_ln)))))))) ?_
        exact sj_M_reach_132 hx hg hM
      · refine am_ev.ke 3 132 120 [.ref 1000, .int x1, .int x2, .long l3, am_ju, .int x5, .int x6, .int x7] [] (zl sn sx, X, xr E G Q N A U Y K H tl, q) c3 (fun _ _ => rfl) ?_
        refine am_ev.wk (lv' := [.ref 1000, .int x1, .int x2, .long l3, am_ju, .int x5, .int x6, am_ju]) (am_lc (Or.inr rfl) (am_lc (Or.inr rfl) (am_lc (Or.inr rfl) (am_lc (Or.inr rfl) (am_lc (Or.inr rfl) (am_lc (Or.inr rfl) (am_lc (Or.inr rfl) (am_lc (Or.inl rfl) am_ln)))))))) ?_
        exact sj_M_reach_120 hx hg hM
theorem sj_M_reach_88 {fu : Nat} {sn : Nat} {sx : Nat → Int32} {X : List am_C} {q : Nat × Nat} {tl : List am_C} {E : ThT} {G : RtT} {Q : PoT} {N : NuT} {A : PaT} {U : UnT} {Y : LiT} {K : KeT} {H : HlT} {x1 : Int32} {x2 : Int32} {l3 : Int64} {x5 : Int32} {x6 : Int32} {x7 : Int32} {oo : am_O} {e : (Int64)} {gg : Int64 → Int32 → Option ((Int64))} (hx : x_M_reach_26 sn sx X q tl E G Q N A U Y K H x1 x2 x5 oo e) (hg : ∀ (l3 : Int64) (x6 : Int32), gg l3 x6 = some e → am_ev 4 k_M_reach (26, [.ref 1000, .int x1, .int x2, .long l3, am_ju, .int x5, .int x6, am_ju], [], (zl sn sx, X, xr E G Q N A U Y K H tl, q)) oo) (hM : j_M_reach_88 fu gg Q x1 x2 l3 x5 x6 x7 = some e) : am_ev 4 k_M_reach (88, [.ref 1000, .int x1, .int x2, .long l3, am_ju, .int x5, .int x6, .int x7], [], (zl sn sx, X, xr E G Q N A U Y K H tl, q)) oo := by
  unfold j_M_reach_88 at hM
  rcases am_if hM with ⟨c4, hM⟩ | ⟨c4, hM⟩
  · refine am_ev.kt 3 104 94 [.ref 1000, .int x1, .int x2, .long l3, am_ju, .int x5, .int x6, .int x7] [] (zl sn sx, X, xr E G Q N A U Y K H tl, q) c4 (fun _ _ => rfl) ?_
    exact sj_M_reach_104 hx hg hM
  · refine am_ev.ke 3 104 94 [.ref 1000, .int x1, .int x2, .long l3, am_ju, .int x5, .int x6, .int x7] [] (zl sn sx, X, xr E G Q N A U Y K H tl, q) c4 (fun _ _ => rfl) ?_
    rcases am_if hM with ⟨c5, hM⟩ | ⟨c5, hM⟩
    · refine am_ev.kt 3 120 99 [.ref 1000, .int x1, .int x2, .long l3, am_ju, .int x5, .int x6, .int x7] [] (zl sn sx, X, xr E G Q N A U Y K H tl, q) c5 (fun _ _ => rfl) ?_
      refine am_ev.wk (lv' := [.ref 1000, .int x1, .int x2, .long l3, am_ju, .int x5, .int x6, am_ju]) (am_lc (Or.inr rfl) (am_lc (Or.inr rfl) (am_lc (Or.inr rfl) (am_lc (Or.inr rfl) (am_lc (Or.inr rfl) (am_lc (Or.inr rfl) (am_lc (Or.inr rfl) (am_lc (Or.inl rfl) am_ln)))))))) ?_
      exact sj_M_reach_120 hx hg hM
    · refine am_ev.ke 3 120 99 [.ref 1000, .int x1, .int x2, .long l3, am_ju, .int x5, .int x6, .int x7] [] (zl sn sx, X, xr E G Q N A U Y K H tl, q) c5 (fun _ _ => rfl) ?_
      rcases am_if hM with ⟨c6, hM⟩ | ⟨c6, hM⟩
      · refine am_ev.kt 3 120 104 [.ref 1000, .int x1, .int x2, .long l3, am_ju, .int x5, .int x6, .int x7] [] (zl sn sx, X, xr E G Q N A U Y K H tl, q) c6 (fun _ _ => rfl) ?_
        refine am_ev.wk (lv' := [.ref 1000, .int x1, .int x2, .long l3, am_ju, .int x5, .int x6, am_ju]) (am_lc (Or.inr rfl) (am_lc (Or.inr rfl) (am_lc (Or.inr rfl) (am_lc (Or.inr rfl) (am_lc (Or.inr rfl) (am_lc (Or.inr rfl) (am_lc (Or.inr rfl) (am_lc (Or.inl rfl) am_ln)))))))) ?_
        exact sj_M_reach_120 hx hg hM
      · refine am_ev.ke 3 120 104 [.ref 1000, .int x1, .int x2, .long l3, am_ju, .int x5, .int x6, .int x7] [] (zl sn sx, X, xr E G Q N A U Y K H tl, q) c6 (fun _ _ => rfl) ?_
        exact sj_M_reach_104 hx hg hM
theorem sj_M_reach_74 {fu : Nat} {sn : Nat} {sx : Nat → Int32} {X : List am_C} {q : Nat × Nat} {tl : List am_C} {E : ThT} {G : RtT} {Q : PoT} {N : NuT} {A : PaT} {U : UnT} {Y : LiT} {K : KeT} {H : HlT} {x1 : Int32} {x2 : Int32} {l3 : Int64} {x5 : Int32} {x6 : Int32} {x7 : Int32} {oo : am_O} {e : (Int64)} {gg : Int64 → Int32 → Option ((Int64))} (hx : x_M_reach_26 sn sx X q tl E G Q N A U Y K H x1 x2 x5 oo e) (hg : ∀ (l3 : Int64) (x6 : Int32), gg l3 x6 = some e → am_ev 4 k_M_reach (26, [.ref 1000, .int x1, .int x2, .long l3, am_ju, .int x5, .int x6, am_ju], [], (zl sn sx, X, xr E G Q N A U Y K H tl, q)) oo) (hM : j_M_reach_74 fu gg Q x1 x2 l3 x5 x6 x7 = some e) : am_ev 4 k_M_reach (74, [.ref 1000, .int x1, .int x2, .long l3, am_ju, .int x5, .int x6, .int x7], [], (zl sn sx, X, xr E G Q N A U Y K H tl, q)) oo := by
  unfold j_M_reach_74 at hM
  obtain ⟨rr, hc, hM⟩ := am_bind hM
  obtain ⟨r2, rfl⟩ : ∃ z, z = rr := ⟨_, rfl⟩
  refine am_ev.kg 4 (pc' := 80) (lv' := [.ref 1000, .int x1, .int x2, .long l3, am_ju, .int x5, .int x6, .int x7]) (st' := [.int x6, .int x5, .int x1, .long l3]) (h' := (zl sn sx, X, xr E G Q N A U Y K H tl, q)) (fun _ _ => rfl) ?_
  refine am_ev.call rfl rfl rfl ((s_M_step hc).mono (by decide)) ?_
  show am_ev _ k_M_reach (83, [.ref 1000, .int x1, .int x2, .long l3, am_ju, .int x5, .int x6, .int x7], [.int r2, .long l3], (zl sn sx, X, xr E G Q N A U Y K H tl, q)) oo
  obtain ⟨rr, hc, hM⟩ := am_bind hM
  obtain ⟨r3, rfl⟩ : ∃ z, z = rr := ⟨_, rfl⟩
  refine am_ev.call rfl rfl rfl ((s_M_bit hc).mono (by decide)) ?_
  show am_ev _ k_M_reach (86, [.ref 1000, .int x1, .int x2, .long l3, am_ju, .int x5, .int x6, .int x7], [.long r3, .long l3], (zl sn sx, X, xr E G Q N A U Y K H tl, q)) oo
  refine am_ev.kg 2 (pc' := 88) (lv' := [.ref 1000, .int x1, .int x2, .long (l3 ||| r3), am_ju, .int x5, .int x6, .int x7]) (st' := []) (h' := (zl sn sx, X, xr E G Q N A U Y K H tl, q)) (fun _ _ => rfl) ?_
  exact sj_M_reach_88 hx hg hM
theorem sj_M_reach_56 {fu : Nat} {sn : Nat} {sx : Nat → Int32} {X : List am_C} {q : Nat × Nat} {tl : List am_C} {E : ThT} {G : RtT} {Q : PoT} {N : NuT} {A : PaT} {U : UnT} {Y : LiT} {K : KeT} {H : HlT} {x1 : Int32} {x2 : Int32} {l3 : Int64} {x5 : Int32} {x6 : Int32} {x7 : Int32} {oo : am_O} {e : (Int64)} {gg : Int64 → Int32 → Option ((Int64))} (hx : x_M_reach_26 sn sx X q tl E G Q N A U Y K H x1 x2 x5 oo e) (hg : ∀ (l3 : Int64) (x6 : Int32), gg l3 x6 = some e → am_ev 4 k_M_reach (26, [.ref 1000, .int x1, .int x2, .long l3, am_ju, .int x5, .int x6, am_ju], [], (zl sn sx, X, xr E G Q N A U Y K H tl, q)) oo) (hM : j_M_reach_56 fu gg Q x1 x2 l3 x5 x6 x7 = some e) : am_ev 4 k_M_reach (56, [.ref 1000, .int x1, .int x2, .long l3, am_ju, .int x5, .int x6, .int x7], [], (zl sn sx, X, xr E G Q N A U Y K H tl, q)) oo := by
  unfold j_M_reach_56 at hM
  rcases am_if hM with ⟨c7, hM⟩ | ⟨c7, hM⟩
  · refine am_ev.kt 3 88 62 [.ref 1000, .int x1, .int x2, .long l3, am_ju, .int x5, .int x6, .int x7] [] (zl sn sx, X, xr E G Q N A U Y K H tl, q) c7 (fun _ _ => rfl) ?_
    exact sj_M_reach_88 hx hg hM
  · refine am_ev.ke 3 88 62 [.ref 1000, .int x1, .int x2, .long l3, am_ju, .int x5, .int x6, .int x7] [] (zl sn sx, X, xr E G Q N A U Y K H tl, q) c7 (fun _ _ => rfl) ?_
    rcases am_if hM with ⟨c8, hM⟩ | ⟨c8, hM⟩
    · refine am_ev.kt 3 74 68 [.ref 1000, .int x1, .int x2, .long l3, am_ju, .int x5, .int x6, .int x7] [] (zl sn sx, X, xr E G Q N A U Y K H tl, q) c8 (fun _ _ => rfl) ?_
      exact sj_M_reach_74 hx hg hM
    · refine am_ev.ke 3 74 68 [.ref 1000, .int x1, .int x2, .long l3, am_ju, .int x5, .int x6, .int x7] [] (zl sn sx, X, xr E G Q N A U Y K H tl, q) c8 (fun _ _ => rfl) ?_
      rcases am_if hM with ⟨c9, hM⟩ | ⟨c9, hM⟩
      · refine am_ev.kt 3 88 74 [.ref 1000, .int x1, .int x2, .long l3, am_ju, .int x5, .int x6, .int x7] [] (zl sn sx, X, xr E G Q N A U Y K H tl, q) c9 (fun _ _ => rfl) ?_
        exact sj_M_reach_88 hx hg hM
      · refine am_ev.ke 3 88 74 [.ref 1000, .int x1, .int x2, .long l3, am_ju, .int x5, .int x6, .int x7] [] (zl sn sx, X, xr E G Q N A U Y K H tl, q) c9 (fun _ _ => rfl) ?_
        exact sj_M_reach_74 hx hg hM
theorem sb_M_reach_26 {fu : Nat} {sn : Nat} {sx : Nat → Int32} {X : List am_C} {q : Nat × Nat} {tl : List am_C} {E : ThT} {G : RtT} {Q : PoT} {N : NuT} {A : PaT} {U : UnT} {Y : LiT} {K : KeT} {H : HlT} {x1 : Int32} {x2 : Int32} {x5 : Int32} {oo : am_O} {e : (Int64)} {gg : Int64 → Int32 → Option ((Int64))} (hx : x_M_reach_26 sn sx X q tl E G Q N A U Y K H x1 x2 x5 oo e) (hg : ∀ (l3 : Int64) (x6 : Int32), gg l3 x6 = some e → am_ev 4 k_M_reach (26, [.ref 1000, .int x1, .int x2, .long l3, am_ju, .int x5, .int x6, am_ju], [], (zl sn sx, X, xr E G Q N A U Y K H tl, q)) oo) {l3 : Int64} {x6 : Int32} (hM : b_M_reach_26 fu Q x1 x2 x5 gg l3 x6 = some e) : am_ev 4 k_M_reach (26, [.ref 1000, .int x1, .int x2, .long l3, am_ju, .int x5, .int x6, am_ju], [], (zl sn sx, X, xr E G Q N A U Y K H tl, q)) oo := by
  unfold b_M_reach_26 at hM
  rcases am_if hM with ⟨c10, hM⟩ | ⟨c10, hM⟩
  · refine am_ev.kt 3 138 32 [.ref 1000, .int x1, .int x2, .long l3, am_ju, .int x5, .int x6, am_ju] [] (zl sn sx, X, xr E G Q N A U Y K H tl, q) c10 (fun _ _ => rfl) ?_
    refine am_ev.wk (lv' := [.ref 1000, .int x1, .int x2, .long l3, am_ju, .int x5, am_ju, am_ju]) (am_lc (Or.inr rfl) (am_lc (Or.inr rfl) (am_lc (Or.inr rfl) (am_lc (Or.inr rfl) (am_lc (Or.inr rfl) (am_lc (Or.inr rfl) (am_lc (Or.inl rfl) (am_lc (Or.inr rfl) am_ln)))))))) ?_
    cases hM
    exact hx
  · refine am_ev.ke 3 138 32 [.ref 1000, .int x1, .int x2, .long l3, am_ju, .int x5, .int x6, am_ju] [] (zl sn sx, X, xr E G Q N A U Y K H tl, q) c10 (fun _ _ => rfl) ?_
    rcases am_if hM with ⟨c11, hM⟩ | ⟨c11, hM⟩
    · refine am_ev.kt 11 56 50 [.ref 1000, .int x1, .int x2, .long l3, am_ju, .int x5, .int x6, .int ((x5 * x5) + (x6 * x6))] [] (zl sn sx, X, xr E G Q N A U Y K H tl, q) c11 (fun _ _ => rfl) ?_
      exact sj_M_reach_56 hx hg hM
    · refine am_ev.ke 11 56 50 [.ref 1000, .int x1, .int x2, .long l3, am_ju, .int x5, .int x6, .int ((x5 * x5) + (x6 * x6))] [] (zl sn sx, X, xr E G Q N A U Y K H tl, q) c11 (fun _ _ => rfl) ?_
      rcases am_if hM with ⟨c12, hM⟩ | ⟨c12, hM⟩
      · refine am_ev.kt 3 74 56 [.ref 1000, .int x1, .int x2, .long l3, am_ju, .int x5, .int x6, .int ((x5 * x5) + (x6 * x6))] [] (zl sn sx, X, xr E G Q N A U Y K H tl, q) c12 (fun _ _ => rfl) ?_
        exact sj_M_reach_74 hx hg hM
      · refine am_ev.ke 3 74 56 [.ref 1000, .int x1, .int x2, .long l3, am_ju, .int x5, .int x6, .int ((x5 * x5) + (x6 * x6))] [] (zl sn sx, X, xr E G Q N A U Y K H tl, q) c12 (fun _ _ => rfl) ?_
        exact sj_M_reach_56 hx hg hM
theorem sl_M_reach_26 {fu : Nat} {sn : Nat} {sx : Nat → Int32} {X : List am_C} {q : Nat × Nat} {tl : List am_C} {E : ThT} {G : RtT} {Q : PoT} {N : NuT} {A : PaT} {U : UnT} {Y : LiT} {K : KeT} {H : HlT} {x1 : Int32} {x2 : Int32} {x5 : Int32} {oo : am_O} {e : (Int64)} (hx : x_M_reach_26 sn sx X q tl E G Q N A U Y K H x1 x2 x5 oo e) : ∀ (n : Nat) (l3 : Int64) (x6 : Int32), l_M_reach_26 fu Q x1 x2 x5 n l3 x6 = some e → am_ev 4 k_M_reach (26, [.ref 1000, .int x1, .int x2, .long l3, am_ju, .int x5, .int x6, am_ju], [], (zl sn sx, X, xr E G Q N A U Y K H tl, q)) oo
  | 0, _, _, hM => by have h : (none : Option ((Int64))) = some e := hM; cases h
  | n + 1, _, _, hM => sb_M_reach_26 hx (fun _ _ hM => sl_M_reach_26 hx n _ _ hM) hM
theorem sb_M_reach_16 {fu : Nat} {sn : Nat} {sx : Nat → Int32} {X : List am_C} {q : Nat × Nat} {tl : List am_C} {E : ThT} {G : RtT} {Q : PoT} {N : NuT} {A : PaT} {U : UnT} {Y : LiT} {K : KeT} {H : HlT} {x1 : Int32} {x2 : Int32} {oo : am_O} {e : Int64} {gg : Int64 → Int32 → Option (Int64)} (hx : x_M_reach_16 sn sx X q tl E G Q N A U Y K H x1 x2 oo e) (hg : ∀ (l3 : Int64) (x5 : Int32), gg l3 x5 = some e → am_ev 4 k_M_reach (16, [.ref 1000, .int x1, .int x2, .long l3, am_ju, .int x5, am_ju, am_ju], [], (zl sn sx, X, xr E G Q N A U Y K H tl, q)) oo) {l3 : Int64} {x5 : Int32} (hM : b_M_reach_16 fu Q x1 x2 gg l3 x5 = some e) : am_ev 4 k_M_reach (16, [.ref 1000, .int x1, .int x2, .long l3, am_ju, .int x5, am_ju, am_ju], [], (zl sn sx, X, xr E G Q N A U Y K H tl, q)) oo := by
  unfold b_M_reach_16 at hM
  rcases am_if hM with ⟨c13, hM⟩ | ⟨c13, hM⟩
  · refine am_ev.kt 3 144 22 [.ref 1000, .int x1, .int x2, .long l3, am_ju, .int x5, am_ju, am_ju] [] (zl sn sx, X, xr E G Q N A U Y K H tl, q) c13 (fun _ _ => rfl) ?_
    cases hM
    cases hx
    exact am_ev.kf 2 (fun _ _ => rfl)
  · refine am_ev.ke 3 144 22 [.ref 1000, .int x1, .int x2, .long l3, am_ju, .int x5, am_ju, am_ju] [] (zl sn sx, X, xr E G Q N A U Y K H tl, q) c13 (fun _ _ => rfl) ?_
    refine am_ev.kg 2 (pc' := 26) (lv' := [.ref 1000, .int x1, .int x2, .long l3, am_ju, .int x5, .int (-2 : Int32), am_ju]) (st' := []) (h' := (zl sn sx, X, xr E G Q N A U Y K H tl, q)) (fun _ _ => rfl) ?_
    obtain ⟨z, hz, hM⟩ := am_bind hM
    obtain ⟨l3_1, rfl⟩ : ∃ y, y = z := ⟨_, rfl⟩
    refine sl_M_reach_26 ?_ _ _ _ hz
    show am_ev 4 k_M_reach (138, [.ref 1000, .int x1, .int x2, .long l3_1, am_ju, .int x5, am_ju, am_ju], [], (zl sn sx, X, xr E G Q N A U Y K H tl, q)) oo
    exact sj_M_reach_138 hx hg hM
theorem sl_M_reach_16 {fu : Nat} {sn : Nat} {sx : Nat → Int32} {X : List am_C} {q : Nat × Nat} {tl : List am_C} {E : ThT} {G : RtT} {Q : PoT} {N : NuT} {A : PaT} {U : UnT} {Y : LiT} {K : KeT} {H : HlT} {x1 : Int32} {x2 : Int32} {oo : am_O} {e : Int64} (hx : x_M_reach_16 sn sx X q tl E G Q N A U Y K H x1 x2 oo e) : ∀ (n : Nat) (l3 : Int64) (x5 : Int32), l_M_reach_16 fu Q x1 x2 n l3 x5 = some e → am_ev 4 k_M_reach (16, [.ref 1000, .int x1, .int x2, .long l3, am_ju, .int x5, am_ju, am_ju], [], (zl sn sx, X, xr E G Q N A U Y K H tl, q)) oo
  | 0, _, _, hM => by have h : (none : Option (Int64)) = some e := hM; cases h
  | n + 1, _, _, hM => sb_M_reach_16 hx (fun _ _ hM => sl_M_reach_16 hx n _ _ hM) hM
theorem se_M_reach {fu : Nat} {sn : Nat} {sx : Nat → Int32} {X : List am_C} {q : Nat × Nat} {tl : List am_C} {E : ThT} {G : RtT} {Q : PoT} {N : NuT} {A : PaT} {U : UnT} {Y : LiT} {K : KeT} {H : HlT} {x1 : Int32} {oo : am_O} {e : Int64} (hx : y_M_reach sn sx X q tl E G Q N A U Y K H oo e) (hM : f_M_reach fu x1 Q = some e) : am_ev 4 k_M_reach (0, [.ref 1000, .int x1, am_ju, am_ju, am_ju, am_ju, am_ju, am_ju], [], (zl sn sx, X, xr E G Q N A U Y K H tl, q)) oo := by
  unfold f_M_reach at hM
  obtain ⟨c14, hM⟩ := am_ifn hM
  refine am_ev.kc 4 6 [.ref 1000, .int x1, am_ju, am_ju, am_ju, am_ju, am_ju, am_ju] [.int ((po_men Q) (x1).toNatClampNeg)] (zl sn sx, X, xr E G Q N A U Y K H tl, q) c14 (fun _ _ => rfl) ?_
  obtain ⟨rr, hc, hM⟩ := am_bind hM
  obtain ⟨r1, rfl⟩ : ∃ z, z = rr := ⟨_, rfl⟩
  refine am_ev.call rfl rfl rfl ((s_M_kind hc).mono (by decide)) ?_
  show am_ev _ k_M_reach (9, [.ref 1000, .int x1, am_ju, am_ju, am_ju, am_ju, am_ju, am_ju], [.int r1], (zl sn sx, X, xr E G Q N A U Y K H tl, q)) oo
  refine am_ev.kg 5 (pc' := 16) (lv' := [.ref 1000, .int x1, .int r1, .long (0 : Int64), am_ju, .int (-2 : Int32), am_ju, am_ju]) (st' := []) (h' := (zl sn sx, X, xr E G Q N A U Y K H tl, q)) (fun _ _ => rfl) ?_
  refine sl_M_reach_16 ?_ _ _ _ hM
  exact hx
theorem s_M_reach {fu : Nat} {sn : Nat} {sx : Nat → Int32} {X : List am_C} {q : Nat × Nat} {tl : List am_C} {E : ThT} {G : RtT} {Q : PoT} {N : NuT} {A : PaT} {U : UnT} {Y : LiT} {K : KeT} {H : HlT} {x1 : Int32} {ov : Int64} (hM : f_M_reach fu x1 Q = some ov) : am_cv 5 k_M_reach [.ref 1000, .int x1] (zl sn sx, X, xr E G Q N A U Y K H tl, q) (.inl (some (.long ov)), (zl sn sx, X, xr E G Q N A U Y K H tl, q)) := am_cv.of rfl (se_M_reach (e := ov) (show y_M_reach sn sx X q tl E G Q N A U Y K H _ ov from rfl) hM)
def y_M_pawnGoals (sn : Nat) (sx : Nat → Int32) (X : List am_C) (q : Nat × Nat) (tl : List am_C) (E : ThT) (G : RtT) (Q : PoT) (N : NuT) (A : PaT) (U : UnT) (Y : LiT) (K : KeT) (H : HlT) (oo : am_O) : Int64 → Prop
  | ov => oo = (.inl (some (.long ov)), (zl sn sx, X, xr E G Q N A U Y K H tl, q))
def x_M_pawnGoals_95 (sn : Nat) (sx : Nat → Int32) (X : List am_C) (q : Nat × Nat) (tl : List am_C) (E : ThT) (G : RtT) (Q : PoT) (N : NuT) (A : PaT) (U : UnT) (Y : LiT) (K : KeT) (H : HlT) (x1 : Int32) (x2 : Int32) (oo : am_O) : Int64 → Prop
  | ov => oo = (.inl (some (.long ov)), (zl sn sx, X, xr E G Q N A U Y K H tl, q))
theorem sj_M_pawnGoals_147 {fu : Nat} {sn : Nat} {sx : Nat → Int32} {X : List am_C} {q : Nat × Nat} {tl : List am_C} {E : ThT} {G : RtT} {Q : PoT} {N : NuT} {A : PaT} {U : UnT} {Y : LiT} {K : KeT} {H : HlT} {x1 : Int32} {x2 : Int32} {l3 : Int64} {x6 : Int32} {oo : am_O} {e : Int64} {gg : Int64 → Int32 → Option (Int64)} (hx : x_M_pawnGoals_95 sn sx X q tl E G Q N A U Y K H x1 x2 oo e) (hg : ∀ (l3 : Int64) (x6 : Int32), gg l3 x6 = some e → am_ev 3 k_M_pawnGoals (95, [.ref 1000, .int x1, .int x2, .long l3, am_ju, am_ju, .int x6, am_ju], [], (zl sn sx, X, xr E G Q N A U Y K H tl, q)) oo) (hM : j_M_pawnGoals_147 fu gg Q x1 x2 l3 x6 = some e) : am_ev 3 k_M_pawnGoals (147, [.ref 1000, .int x1, .int x2, .long l3, am_ju, am_ju, .int x6, am_ju], [], (zl sn sx, X, xr E G Q N A U Y K H tl, q)) oo := by
  unfold j_M_pawnGoals_147 at hM
  refine am_ev.kg 2 (pc' := 95) (lv' := [.ref 1000, .int x1, .int x2, .long l3, am_ju, am_ju, .int (x6 + (2 : Int32)), am_ju]) (st' := []) (h' := (zl sn sx, X, xr E G Q N A U Y K H tl, q)) (fun _ _ => rfl) ?_
  exact hg _ _ hM
theorem sj_M_pawnGoals_139 {fu : Nat} {sn : Nat} {sx : Nat → Int32} {X : List am_C} {q : Nat × Nat} {tl : List am_C} {E : ThT} {G : RtT} {Q : PoT} {N : NuT} {A : PaT} {U : UnT} {Y : LiT} {K : KeT} {H : HlT} {x1 : Int32} {x2 : Int32} {l3 : Int64} {x6 : Int32} {x7 : Int32} {oo : am_O} {e : Int64} {gg : Int64 → Int32 → Option (Int64)} (hx : x_M_pawnGoals_95 sn sx X q tl E G Q N A U Y K H x1 x2 oo e) (hg : ∀ (l3 : Int64) (x6 : Int32), gg l3 x6 = some e → am_ev 3 k_M_pawnGoals (95, [.ref 1000, .int x1, .int x2, .long l3, am_ju, am_ju, .int x6, am_ju], [], (zl sn sx, X, xr E G Q N A U Y K H tl, q)) oo) (hM : j_M_pawnGoals_139 fu gg Q x1 x2 l3 x6 x7 = some e) : am_ev 3 k_M_pawnGoals (139, [.ref 1000, .int x1, .int x2, .long l3, am_ju, am_ju, .int x6, .int x7], [], (zl sn sx, X, xr E G Q N A U Y K H tl, q)) oo := by
  unfold j_M_pawnGoals_139 at hM
  obtain ⟨rr, hc, hM⟩ := am_bind hM
  obtain ⟨r7, rfl⟩ : ∃ z, z = rr := ⟨_, rfl⟩
  refine am_ev.kg 2 (pc' := 142) (lv' := [.ref 1000, .int x1, .int x2, .long l3, am_ju, am_ju, .int x6, .int x7]) (st' := [.int x7, .long l3]) (h' := (zl sn sx, X, xr E G Q N A U Y K H tl, q)) (fun _ _ => rfl) ?_
  refine am_ev.call rfl rfl rfl ((s_M_bit hc).mono (by decide)) ?_
  show am_ev _ k_M_pawnGoals (145, [.ref 1000, .int x1, .int x2, .long l3, am_ju, am_ju, .int x6, .int x7], [.long r7, .long l3], (zl sn sx, X, xr E G Q N A U Y K H tl, q)) oo
  refine am_ev.kg 2 (pc' := 147) (lv' := [.ref 1000, .int x1, .int x2, .long (l3 ||| r7), am_ju, am_ju, .int x6, .int x7]) (st' := []) (h' := (zl sn sx, X, xr E G Q N A U Y K H tl, q)) (fun _ _ => rfl) ?_
  refine am_ev.wk (lv' := [.ref 1000, .int x1, .int x2, .long (l3 ||| r7), am_ju, am_ju, .int x6, am_ju]) (am_lc (Or.inr rfl) (am_lc (Or.inr rfl) (am_lc (Or.inr rfl) (am_lc (Or.inr rfl) (am_lc (Or.inr rfl) (am_lc (Or.inr rfl) (am_lc (Or.inr rfl) (am_lc (Or.inl rfl) am_ln)))))))) ?_
  exact sj_M_pawnGoals_147 hx hg hM
theorem sb_M_pawnGoals_95 {fu : Nat} {sn : Nat} {sx : Nat → Int32} {X : List am_C} {q : Nat × Nat} {tl : List am_C} {E : ThT} {G : RtT} {Q : PoT} {N : NuT} {A : PaT} {U : UnT} {Y : LiT} {K : KeT} {H : HlT} {x1 : Int32} {x2 : Int32} {oo : am_O} {e : Int64} {gg : Int64 → Int32 → Option (Int64)} (hx : x_M_pawnGoals_95 sn sx X q tl E G Q N A U Y K H x1 x2 oo e) (hg : ∀ (l3 : Int64) (x6 : Int32), gg l3 x6 = some e → am_ev 3 k_M_pawnGoals (95, [.ref 1000, .int x1, .int x2, .long l3, am_ju, am_ju, .int x6, am_ju], [], (zl sn sx, X, xr E G Q N A U Y K H tl, q)) oo) {l3 : Int64} {x6 : Int32} (hM : b_M_pawnGoals_95 fu Q x1 x2 gg l3 x6 = some e) : am_ev 3 k_M_pawnGoals (95, [.ref 1000, .int x1, .int x2, .long l3, am_ju, am_ju, .int x6, am_ju], [], (zl sn sx, X, xr E G Q N A U Y K H tl, q)) oo := by
  unfold b_M_pawnGoals_95 at hM
  rcases am_if hM with ⟨c1, hM⟩ | ⟨c1, hM⟩
  · refine am_ev.kt 3 153 101 [.ref 1000, .int x1, .int x2, .long l3, am_ju, am_ju, .int x6, am_ju] [] (zl sn sx, X, xr E G Q N A U Y K H tl, q) c1 (fun _ _ => rfl) ?_
    cases hM
    cases hx
    exact am_ev.kf 2 (fun _ _ => rfl)
  · refine am_ev.ke 3 153 101 [.ref 1000, .int x1, .int x2, .long l3, am_ju, am_ju, .int x6, am_ju] [] (zl sn sx, X, xr E G Q N A U Y K H tl, q) c1 (fun _ _ => rfl) ?_
    obtain ⟨rr, hc, hM⟩ := am_bind hM
    obtain ⟨r5, rfl⟩ : ∃ z, z = rr := ⟨_, rfl⟩
    refine am_ev.kg 3 (pc' := 105) (lv' := [.ref 1000, .int x1, .int x2, .long l3, am_ju, am_ju, .int x6, am_ju]) (st' := [.int x2, .int x6, .int x1]) (h' := (zl sn sx, X, xr E G Q N A U Y K H tl, q)) (fun _ _ => rfl) ?_
    refine am_ev.call rfl rfl rfl ((s_M_step hc).mono (by decide)) ?_
    show am_ev _ k_M_pawnGoals (108, [.ref 1000, .int x1, .int x2, .long l3, am_ju, am_ju, .int x6, am_ju], [.int r5], (zl sn sx, X, xr E G Q N A U Y K H tl, q)) oo
    rcases am_if hM with ⟨c2, hM⟩ | ⟨c2, hM⟩
    · refine am_ev.kt 3 147 115 [.ref 1000, .int x1, .int x2, .long l3, am_ju, am_ju, .int x6, .int r5] [] (zl sn sx, X, xr E G Q N A U Y K H tl, q) c2 (fun _ _ => rfl) ?_
      refine am_ev.wk (lv' := [.ref 1000, .int x1, .int x2, .long l3, am_ju, am_ju, .int x6, am_ju]) (am_lc (Or.inr rfl) (am_lc (Or.inr rfl) (am_lc (Or.inr rfl) (am_lc (Or.inr rfl) (am_lc (Or.inr rfl) (am_lc (Or.inr rfl) (am_lc (Or.inr rfl) (am_lc (Or.inl rfl) am_ln)))))))) ?_
      exact sj_M_pawnGoals_147 hx hg hM
    · refine am_ev.ke 3 147 115 [.ref 1000, .int x1, .int x2, .long l3, am_ju, am_ju, .int x6, .int r5] [] (zl sn sx, X, xr E G Q N A U Y K H tl, q) c2 (fun _ _ => rfl) ?_
      obtain ⟨rr, hc, hM⟩ := am_bind hM
      obtain ⟨r6, rfl⟩ : ∃ z, z = rr := ⟨_, rfl⟩
      refine am_ev.kg 6 (pc' := 124) (lv' := [.ref 1000, .int x1, .int x2, .long l3, am_ju, am_ju, .int x6, .int r5]) (st' := [.int ((1 : Int32) - (po_side Q)), .int r5, .ref 1000]) (h' := (zl sn sx, X, xr E G Q N A U Y K H tl, q)) (fun _ _ => rfl) ?_
      refine am_ev.call rfl rfl rfl ((s_M_isOf hc).mono (by decide)) ?_
      show am_ev _ k_M_pawnGoals (127, [.ref 1000, .int x1, .int x2, .long l3, am_ju, am_ju, .int x6, .int r5], [.int r6], (zl sn sx, X, xr E G Q N A U Y K H tl, q)) oo
      rcases am_if hM with ⟨c3, hM⟩ | ⟨c3, hM⟩
      · refine am_ev.kt 1 139 130 [.ref 1000, .int x1, .int x2, .long l3, am_ju, am_ju, .int x6, .int r5] [] (zl sn sx, X, xr E G Q N A U Y K H tl, q) c3 (fun _ _ => rfl) ?_
        exact sj_M_pawnGoals_139 hx hg hM
      · refine am_ev.ke 1 139 130 [.ref 1000, .int x1, .int x2, .long l3, am_ju, am_ju, .int x6, .int r5] [] (zl sn sx, X, xr E G Q N A U Y K H tl, q) c3 (fun _ _ => rfl) ?_
        rcases am_if hM with ⟨c4, hM⟩ | ⟨c4, hM⟩
        · refine am_ev.kt 4 147 139 [.ref 1000, .int x1, .int x2, .long l3, am_ju, am_ju, .int x6, .int r5] [] (zl sn sx, X, xr E G Q N A U Y K H tl, q) c4 (fun _ _ => rfl) ?_
          refine am_ev.wk (lv' := [.ref 1000, .int x1, .int x2, .long l3, am_ju, am_ju, .int x6, am_ju]) (am_lc (Or.inr rfl) (am_lc (Or.inr rfl) (am_lc (Or.inr rfl) (am_lc (Or.inr rfl) (am_lc (Or.inr rfl) (am_lc (Or.inr rfl) (am_lc (Or.inr rfl) (am_lc (Or.inl rfl) am_ln)))))))) ?_
          exact sj_M_pawnGoals_147 hx hg hM
        · refine am_ev.ke 4 147 139 [.ref 1000, .int x1, .int x2, .long l3, am_ju, am_ju, .int x6, .int r5] [] (zl sn sx, X, xr E G Q N A U Y K H tl, q) c4 (fun _ _ => rfl) ?_
          exact sj_M_pawnGoals_139 hx hg hM
theorem sl_M_pawnGoals_95 {fu : Nat} {sn : Nat} {sx : Nat → Int32} {X : List am_C} {q : Nat × Nat} {tl : List am_C} {E : ThT} {G : RtT} {Q : PoT} {N : NuT} {A : PaT} {U : UnT} {Y : LiT} {K : KeT} {H : HlT} {x1 : Int32} {x2 : Int32} {oo : am_O} {e : Int64} (hx : x_M_pawnGoals_95 sn sx X q tl E G Q N A U Y K H x1 x2 oo e) : ∀ (n : Nat) (l3 : Int64) (x6 : Int32), l_M_pawnGoals_95 fu Q x1 x2 n l3 x6 = some e → am_ev 3 k_M_pawnGoals (95, [.ref 1000, .int x1, .int x2, .long l3, am_ju, am_ju, .int x6, am_ju], [], (zl sn sx, X, xr E G Q N A U Y K H tl, q)) oo
  | 0, _, _, hM => by have h : (none : Option (Int64)) = some e := hM; cases h
  | n + 1, _, _, hM => sb_M_pawnGoals_95 hx (fun _ _ hM => sl_M_pawnGoals_95 hx n _ _ hM) hM
theorem sj_M_pawnGoals_92 {fu : Nat} {sn : Nat} {sx : Nat → Int32} {X : List am_C} {q : Nat × Nat} {tl : List am_C} {E : ThT} {G : RtT} {Q : PoT} {N : NuT} {A : PaT} {U : UnT} {Y : LiT} {K : KeT} {H : HlT} {x1 : Int32} {x2 : Int32} {l3 : Int64} {oo : am_O} {e : Int64} (hx : y_M_pawnGoals sn sx X q tl E G Q N A U Y K H oo e) (hM : j_M_pawnGoals_92 fu Q x1 x2 l3 = some e) : am_ev 3 k_M_pawnGoals (92, [.ref 1000, .int x1, .int x2, .long l3, am_ju, am_ju, am_ju, am_ju], [], (zl sn sx, X, xr E G Q N A U Y K H tl, q)) oo := by
  unfold j_M_pawnGoals_92 at hM
  refine am_ev.kg 2 (pc' := 95) (lv' := [.ref 1000, .int x1, .int x2, .long l3, am_ju, am_ju, .int (-1 : Int32), am_ju]) (st' := []) (h' := (zl sn sx, X, xr E G Q N A U Y K H tl, q)) (fun _ _ => rfl) ?_
  refine sl_M_pawnGoals_95 ?_ _ _ _ hM
  exact hx
theorem sj_M_pawnGoals_71 {fu : Nat} {sn : Nat} {sx : Nat → Int32} {X : List am_C} {q : Nat × Nat} {tl : List am_C} {E : ThT} {G : RtT} {Q : PoT} {N : NuT} {A : PaT} {U : UnT} {Y : LiT} {K : KeT} {H : HlT} {x1 : Int32} {x2 : Int32} {l3 : Int64} {x6 : Int32} {s0 : Int32} {s1 : Int32} {oo : am_O} {e : Int64} (hx : y_M_pawnGoals sn sx X q tl E G Q N A U Y K H oo e) (hM : j_M_pawnGoals_71 fu Q x1 x2 l3 x6 s0 s1 = some e) : am_ev 3 k_M_pawnGoals (71, [.ref 1000, .int x1, .int x2, .long l3, am_ju, am_ju, .int x6, am_ju], [.int s1, .int s0], (zl sn sx, X, xr E G Q N A U Y K H tl, q)) oo := by
  unfold j_M_pawnGoals_71 at hM
  rcases am_if hM with ⟨c5, hM⟩ | ⟨c5, hM⟩
  · refine am_ev.kt 1 92 74 [.ref 1000, .int x1, .int x2, .long l3, am_ju, am_ju, .int x6, am_ju] [] (zl sn sx, X, xr E G Q N A U Y K H tl, q) c5 (fun _ _ => rfl) ?_
    refine am_ev.wk (lv' := [.ref 1000, .int x1, .int x2, .long l3, am_ju, am_ju, am_ju, am_ju]) (am_lc (Or.inr rfl) (am_lc (Or.inr rfl) (am_lc (Or.inr rfl) (am_lc (Or.inr rfl) (am_lc (Or.inr rfl) (am_lc (Or.inr rfl) (am_lc (Or.inl rfl) (am_lc (Or.inr rfl) am_ln)))))))) ?_
    exact sj_M_pawnGoals_92 hx hM
  · refine am_ev.ke 1 92 74 [.ref 1000, .int x1, .int x2, .long l3, am_ju, am_ju, .int x6, am_ju] [] (zl sn sx, X, xr E G Q N A U Y K H tl, q) c5 (fun _ _ => rfl) ?_
    obtain ⟨c6, hM⟩ := am_ifn hM
    refine am_ev.kc 4 81 [.ref 1000, .int x1, .int x2, .long l3, am_ju, am_ju, .int x6, am_ju] [.int ((po_men Q) (x6).toNatClampNeg)] (zl sn sx, X, xr E G Q N A U Y K H tl, q) c6 (fun _ _ => rfl) ?_
    rcases am_if hM with ⟨c7, hM⟩ | ⟨c7, hM⟩
    · refine am_ev.kt 1 92 84 [.ref 1000, .int x1, .int x2, .long l3, am_ju, am_ju, .int x6, am_ju] [] (zl sn sx, X, xr E G Q N A U Y K H tl, q) c7 (fun _ _ => rfl) ?_
      refine am_ev.wk (lv' := [.ref 1000, .int x1, .int x2, .long l3, am_ju, am_ju, am_ju, am_ju]) (am_lc (Or.inr rfl) (am_lc (Or.inr rfl) (am_lc (Or.inr rfl) (am_lc (Or.inr rfl) (am_lc (Or.inr rfl) (am_lc (Or.inr rfl) (am_lc (Or.inl rfl) (am_lc (Or.inr rfl) am_ln)))))))) ?_
      exact sj_M_pawnGoals_92 hx hM
    · refine am_ev.ke 1 92 84 [.ref 1000, .int x1, .int x2, .long l3, am_ju, am_ju, .int x6, am_ju] [] (zl sn sx, X, xr E G Q N A U Y K H tl, q) c7 (fun _ _ => rfl) ?_
      obtain ⟨rr, hc, hM⟩ := am_bind hM
      obtain ⟨r4, rfl⟩ : ∃ z, z = rr := ⟨_, rfl⟩
      refine am_ev.kg 2 (pc' := 87) (lv' := [.ref 1000, .int x1, .int x2, .long l3, am_ju, am_ju, .int x6, am_ju]) (st' := [.int x6, .long l3]) (h' := (zl sn sx, X, xr E G Q N A U Y K H tl, q)) (fun _ _ => rfl) ?_
      refine am_ev.call rfl rfl rfl ((s_M_bit hc).mono (by decide)) ?_
      show am_ev _ k_M_pawnGoals (90, [.ref 1000, .int x1, .int x2, .long l3, am_ju, am_ju, .int x6, am_ju], [.long r4, .long l3], (zl sn sx, X, xr E G Q N A U Y K H tl, q)) oo
      refine am_ev.kg 2 (pc' := 92) (lv' := [.ref 1000, .int x1, .int x2, .long (l3 ||| r4), am_ju, am_ju, .int x6, am_ju]) (st' := []) (h' := (zl sn sx, X, xr E G Q N A U Y K H tl, q)) (fun _ _ => rfl) ?_
      refine am_ev.wk (lv' := [.ref 1000, .int x1, .int x2, .long (l3 ||| r4), am_ju, am_ju, am_ju, am_ju]) (am_lc (Or.inr rfl) (am_lc (Or.inr rfl) (am_lc (Or.inr rfl) (am_lc (Or.inr rfl) (am_lc (Or.inr rfl) (am_lc (Or.inr rfl) (am_lc (Or.inl rfl) (am_lc (Or.inr rfl) am_ln)))))))) ?_
      exact sj_M_pawnGoals_92 hx hM
theorem sj_M_pawnGoals_12 {fu : Nat} {sn : Nat} {sx : Nat → Int32} {X : List am_C} {q : Nat × Nat} {tl : List am_C} {E : ThT} {G : RtT} {Q : PoT} {N : NuT} {A : PaT} {U : UnT} {Y : LiT} {K : KeT} {H : HlT} {x1 : Int32} {s0 : Int32} {oo : am_O} {e : Int64} (hx : y_M_pawnGoals sn sx X q tl E G Q N A U Y K H oo e) (hM : j_M_pawnGoals_12 fu Q x1 s0 = some e) : am_ev 3 k_M_pawnGoals (12, [.ref 1000, .int x1, am_ju, am_ju, am_ju, am_ju, am_ju, am_ju], [.int s0], (zl sn sx, X, xr E G Q N A U Y K H tl, q)) oo := by
  unfold j_M_pawnGoals_12 at hM
  obtain ⟨rr, hc, hM⟩ := am_bind hM
  obtain ⟨r1, rfl⟩ : ∃ z, z = rr := ⟨_, rfl⟩
  refine am_ev.kg 6 (pc' := 18) (lv' := [.ref 1000, .int x1, .int s0, .long (0 : Int64), am_ju, am_ju, am_ju, am_ju]) (st' := [.int s0, .int (0 : Int32), .int x1]) (h' := (zl sn sx, X, xr E G Q N A U Y K H tl, q)) (fun _ _ => rfl) ?_
  refine am_ev.call rfl rfl rfl ((s_M_step hc).mono (by decide)) ?_
  show am_ev _ k_M_pawnGoals (21, [.ref 1000, .int x1, .int s0, .long (0 : Int64), am_ju, am_ju, am_ju, am_ju], [.int r1], (zl sn sx, X, xr E G Q N A U Y K H tl, q)) oo
  rcases am_if hM with ⟨c8, hM⟩ | ⟨c8, hM⟩
  · refine am_ev.kt 3 92 28 [.ref 1000, .int x1, .int s0, .long (0 : Int64), am_ju, .int r1, am_ju, am_ju] [] (zl sn sx, X, xr E G Q N A U Y K H tl, q) c8 (fun _ _ => rfl) ?_
    refine am_ev.wk (lv' := [.ref 1000, .int x1, .int s0, .long (0 : Int64), am_ju, am_ju, am_ju, am_ju]) (am_lc (Or.inr rfl) (am_lc (Or.inr rfl) (am_lc (Or.inr rfl) (am_lc (Or.inr rfl) (am_lc (Or.inr rfl) (am_lc (Or.inl rfl) (am_lc (Or.inr rfl) (am_lc (Or.inr rfl) am_ln)))))))) ?_
    exact sj_M_pawnGoals_92 hx hM
  · refine am_ev.ke 3 92 28 [.ref 1000, .int x1, .int s0, .long (0 : Int64), am_ju, .int r1, am_ju, am_ju] [] (zl sn sx, X, xr E G Q N A U Y K H tl, q) c8 (fun _ _ => rfl) ?_
    obtain ⟨c9, hM⟩ := am_ifn hM
    refine am_ev.kc 4 35 [.ref 1000, .int x1, .int s0, .long (0 : Int64), am_ju, .int r1, am_ju, am_ju] [.int ((po_men Q) (r1).toNatClampNeg)] (zl sn sx, X, xr E G Q N A U Y K H tl, q) c9 (fun _ _ => rfl) ?_
    rcases am_if hM with ⟨c10, hM⟩ | ⟨c10, hM⟩
    · refine am_ev.kt 1 92 38 [.ref 1000, .int x1, .int s0, .long (0 : Int64), am_ju, .int r1, am_ju, am_ju] [] (zl sn sx, X, xr E G Q N A U Y K H tl, q) c10 (fun _ _ => rfl) ?_
      refine am_ev.wk (lv' := [.ref 1000, .int x1, .int s0, .long (0 : Int64), am_ju, am_ju, am_ju, am_ju]) (am_lc (Or.inr rfl) (am_lc (Or.inr rfl) (am_lc (Or.inr rfl) (am_lc (Or.inr rfl) (am_lc (Or.inr rfl) (am_lc (Or.inl rfl) (am_lc (Or.inr rfl) (am_lc (Or.inr rfl) am_ln)))))))) ?_
      exact sj_M_pawnGoals_92 hx hM
    · refine am_ev.ke 1 92 38 [.ref 1000, .int x1, .int s0, .long (0 : Int64), am_ju, .int r1, am_ju, am_ju] [] (zl sn sx, X, xr E G Q N A U Y K H tl, q) c10 (fun _ _ => rfl) ?_
      obtain ⟨rr, hc, hM⟩ := am_bind hM
      obtain ⟨r2, rfl⟩ : ∃ z, z = rr := ⟨_, rfl⟩
      refine am_ev.kg 2 (pc' := 41) (lv' := [.ref 1000, .int x1, .int s0, .long (0 : Int64), am_ju, .int r1, am_ju, am_ju]) (st' := [.int r1, .long (0 : Int64)]) (h' := (zl sn sx, X, xr E G Q N A U Y K H tl, q)) (fun _ _ => rfl) ?_
      refine am_ev.call rfl rfl rfl ((s_M_bit hc).mono (by decide)) ?_
      show am_ev _ k_M_pawnGoals (44, [.ref 1000, .int x1, .int s0, .long (0 : Int64), am_ju, .int r1, am_ju, am_ju], [.long r2, .long (0 : Int64)], (zl sn sx, X, xr E G Q N A U Y K H tl, q)) oo
      obtain ⟨rr, hc, hM⟩ := am_bind hM
      obtain ⟨r3, rfl⟩ : ∃ z, z = rr := ⟨_, rfl⟩
      refine am_ev.kg 5 (pc' := 50) (lv' := [.ref 1000, .int x1, .int s0, .long ((0 : Int64) ||| r2), am_ju, .int r1, am_ju, am_ju]) (st' := [.int s0, .int (0 : Int32), .int r1]) (h' := (zl sn sx, X, xr E G Q N A U Y K H tl, q)) (fun _ _ => rfl) ?_
      refine am_ev.call rfl rfl rfl ((s_M_step hc).mono (by decide)) ?_
      show am_ev _ k_M_pawnGoals (53, [.ref 1000, .int x1, .int s0, .long ((0 : Int64) ||| r2), am_ju, .int r1, am_ju, am_ju], [.int r3], (zl sn sx, X, xr E G Q N A U Y K H tl, q)) oo
      rcases am_if hM with ⟨c11, hM⟩ | ⟨c11, hM⟩
      · refine am_ev.kt 7 69 65 [.ref 1000, .int x1, .int s0, .long ((0 : Int64) ||| r2), am_ju, .int r1, .int r3, am_ju] [.int (x1 >>> ((3 : Int32) &&& 31))] (zl sn sx, X, xr E G Q N A U Y K H tl, q) c11 (fun _ _ => rfl) ?_
        refine am_ev.kg 1 (pc' := 71) (lv' := [.ref 1000, .int x1, .int s0, .long ((0 : Int64) ||| r2), am_ju, .int r1, .int r3, am_ju]) (st' := [.int (6 : Int32), .int (x1 >>> ((3 : Int32) &&& 31))]) (h' := (zl sn sx, X, xr E G Q N A U Y K H tl, q)) (fun _ _ => rfl) ?_
        refine am_ev.wk (lv' := [.ref 1000, .int x1, .int s0, .long ((0 : Int64) ||| r2), am_ju, am_ju, .int r3, am_ju]) (am_lc (Or.inr rfl) (am_lc (Or.inr rfl) (am_lc (Or.inr rfl) (am_lc (Or.inr rfl) (am_lc (Or.inr rfl) (am_lc (Or.inl rfl) (am_lc (Or.inr rfl) (am_lc (Or.inr rfl) am_ln)))))))) ?_
        exact sj_M_pawnGoals_71 hx hM
      · refine am_ev.ke 7 69 65 [.ref 1000, .int x1, .int s0, .long ((0 : Int64) ||| r2), am_ju, .int r1, .int r3, am_ju] [.int (x1 >>> ((3 : Int32) &&& 31))] (zl sn sx, X, xr E G Q N A U Y K H tl, q) c11 (fun _ _ => rfl) ?_
        refine am_ev.kg 2 (pc' := 71) (lv' := [.ref 1000, .int x1, .int s0, .long ((0 : Int64) ||| r2), am_ju, .int r1, .int r3, am_ju]) (st' := [.int (1 : Int32), .int (x1 >>> ((3 : Int32) &&& 31))]) (h' := (zl sn sx, X, xr E G Q N A U Y K H tl, q)) (fun _ _ => rfl) ?_
        refine am_ev.wk (lv' := [.ref 1000, .int x1, .int s0, .long ((0 : Int64) ||| r2), am_ju, am_ju, .int r3, am_ju]) (am_lc (Or.inr rfl) (am_lc (Or.inr rfl) (am_lc (Or.inr rfl) (am_lc (Or.inr rfl) (am_lc (Or.inr rfl) (am_lc (Or.inl rfl) (am_lc (Or.inr rfl) (am_lc (Or.inr rfl) am_ln)))))))) ?_
        exact sj_M_pawnGoals_71 hx hM
theorem se_M_pawnGoals {fu : Nat} {sn : Nat} {sx : Nat → Int32} {X : List am_C} {q : Nat × Nat} {tl : List am_C} {E : ThT} {G : RtT} {Q : PoT} {N : NuT} {A : PaT} {U : UnT} {Y : LiT} {K : KeT} {H : HlT} {x1 : Int32} {oo : am_O} {e : Int64} (hx : y_M_pawnGoals sn sx X q tl E G Q N A U Y K H oo e) (hM : f_M_pawnGoals fu x1 Q = some e) : am_ev 3 k_M_pawnGoals (0, [.ref 1000, .int x1, am_ju, am_ju, am_ju, am_ju, am_ju, am_ju], [], (zl sn sx, X, xr E G Q N A U Y K H tl, q)) oo := by
  unfold f_M_pawnGoals at hM
  rcases am_if hM with ⟨c12, hM⟩ | ⟨c12, hM⟩
  · refine am_ev.kt 3 11 7 [.ref 1000, .int x1, am_ju, am_ju, am_ju, am_ju, am_ju, am_ju] [] (zl sn sx, X, xr E G Q N A U Y K H tl, q) c12 (fun _ _ => rfl) ?_
    refine am_ev.kg 1 (pc' := 12) (lv' := [.ref 1000, .int x1, am_ju, am_ju, am_ju, am_ju, am_ju, am_ju]) (st' := [.int (-1 : Int32)]) (h' := (zl sn sx, X, xr E G Q N A U Y K H tl, q)) (fun _ _ => rfl) ?_
    exact sj_M_pawnGoals_12 hx hM
  · refine am_ev.ke 3 11 7 [.ref 1000, .int x1, am_ju, am_ju, am_ju, am_ju, am_ju, am_ju] [] (zl sn sx, X, xr E G Q N A U Y K H tl, q) c12 (fun _ _ => rfl) ?_
    refine am_ev.kg 2 (pc' := 12) (lv' := [.ref 1000, .int x1, am_ju, am_ju, am_ju, am_ju, am_ju, am_ju]) (st' := [.int (1 : Int32)]) (h' := (zl sn sx, X, xr E G Q N A U Y K H tl, q)) (fun _ _ => rfl) ?_
    exact sj_M_pawnGoals_12 hx hM
theorem s_M_pawnGoals {fu : Nat} {sn : Nat} {sx : Nat → Int32} {X : List am_C} {q : Nat × Nat} {tl : List am_C} {E : ThT} {G : RtT} {Q : PoT} {N : NuT} {A : PaT} {U : UnT} {Y : LiT} {K : KeT} {H : HlT} {x1 : Int32} {ov : Int64} (hM : f_M_pawnGoals fu x1 Q = some ov) : am_cv 4 k_M_pawnGoals [.ref 1000, .int x1] (zl sn sx, X, xr E G Q N A U Y K H tl, q) (.inl (some (.long ov)), (zl sn sx, X, xr E G Q N A U Y K H tl, q)) := am_cv.of rfl (se_M_pawnGoals (e := ov) (show y_M_pawnGoals sn sx X q tl E G Q N A U Y K H _ ov from rfl) hM)
def y_M_goals (sn : Nat) (sx : Nat → Int32) (X : List am_C) (q : Nat × Nat) (tl : List am_C) (E : ThT) (G : RtT) (Q : PoT) (N : NuT) (A : PaT) (U : UnT) (Y : LiT) (K : KeT) (H : HlT) (oo : am_O) : Int64 → Prop
  | ov => oo = (.inl (some (.long ov)), (zl sn sx, X, xr E G Q N A U Y K H tl, q))
theorem sj_M_goals_71 {fu : Nat} {sn : Nat} {sx : Nat → Int32} {X : List am_C} {q : Nat × Nat} {tl : List am_C} {E : ThT} {G : RtT} {Q : PoT} {N : NuT} {A : PaT} {U : UnT} {Y : LiT} {K : KeT} {H : HlT} {x1 : Int32} {t0 : Int64} {t1 : Int64} {oo : am_O} {e : Int64} (hx : y_M_goals sn sx X q tl E G Q N A U Y K H oo e) (hM : j_M_goals_71 fu Q x1 t0 t1 = some e) : am_ev 7 k_M_goals (71, [.ref 1000, .int x1, am_ju, am_ju], [.long t1, .long t0], (zl sn sx, X, xr E G Q N A U Y K H tl, q)) oo := by
  unfold j_M_goals_71 at hM
  obtain ⟨rr, hc, hM⟩ := am_bind hM
  obtain ⟨r7, rfl⟩ : ∃ z, z = rr := ⟨_, rfl⟩
  refine am_ev.kg 3 (pc' := 74) (lv' := [.ref 1000, .int x1, am_ju, am_ju]) (st' := [.int (0 : Int32), .ref 1000, .long (t0 ||| t1)]) (h' := (zl sn sx, X, xr E G Q N A U Y K H tl, q)) (fun _ _ => rfl) ?_
  refine am_ev.call rfl rfl rfl ((s_M_mayCastle hc).mono (by decide)) ?_
  show am_ev _ k_M_goals (77, [.ref 1000, .int x1, am_ju, am_ju], [.int r7, .long (t0 ||| t1)], (zl sn sx, X, xr E G Q N A U Y K H tl, q)) oo
  rcases am_if hM with ⟨c1, hM⟩ | ⟨c1, hM⟩
  · refine am_ev.kt 1 89 80 [.ref 1000, .int x1, am_ju, am_ju] [.long (t0 ||| t1)] (zl sn sx, X, xr E G Q N A U Y K H tl, q) c1 (fun _ _ => rfl) ?_
    cases hM
    cases hx
    exact am_ev.kf 5 (fun _ _ => rfl)
  · refine am_ev.ke 1 89 80 [.ref 1000, .int x1, am_ju, am_ju] [.long (t0 ||| t1)] (zl sn sx, X, xr E G Q N A U Y K H tl, q) c1 (fun _ _ => rfl) ?_
    obtain ⟨rr, hc, hM⟩ := am_bind hM
    obtain ⟨r8, rfl⟩ : ∃ z, z = rr := ⟨_, rfl⟩
    refine am_ev.kg 3 (pc' := 83) (lv' := [.ref 1000, .int x1, am_ju, am_ju]) (st' := [.int (x1 - (2 : Int32)), .long (t0 ||| t1)]) (h' := (zl sn sx, X, xr E G Q N A U Y K H tl, q)) (fun _ _ => rfl) ?_
    refine am_ev.call rfl rfl rfl ((s_M_bit hc).mono (by decide)) ?_
    show am_ev _ k_M_goals (86, [.ref 1000, .int x1, am_ju, am_ju], [.long r8, .long (t0 ||| t1)], (zl sn sx, X, xr E G Q N A U Y K H tl, q)) oo
    cases hM
    cases hx
    exact am_ev.kf 5 (fun _ _ => rfl)
theorem se_M_goals {fu : Nat} {sn : Nat} {sx : Nat → Int32} {X : List am_C} {q : Nat × Nat} {tl : List am_C} {E : ThT} {G : RtT} {Q : PoT} {N : NuT} {A : PaT} {U : UnT} {Y : LiT} {K : KeT} {H : HlT} {x1 : Int32} {oo : am_O} {e : Int64} (hx : y_M_goals sn sx X q tl E G Q N A U Y K H oo e) (hM : f_M_goals fu x1 Q = some e) : am_ev 7 k_M_goals (0, [.ref 1000, .int x1, am_ju, am_ju], [], (zl sn sx, X, xr E G Q N A U Y K H tl, q)) oo := by
  unfold f_M_goals at hM
  obtain ⟨c2, hM⟩ := am_ifn hM
  refine am_ev.kc 4 6 [.ref 1000, .int x1, am_ju, am_ju] [.int ((po_men Q) (x1).toNatClampNeg)] (zl sn sx, X, xr E G Q N A U Y K H tl, q) c2 (fun _ _ => rfl) ?_
  obtain ⟨rr, hc, hM⟩ := am_bind hM
  obtain ⟨r1, rfl⟩ : ∃ z, z = rr := ⟨_, rfl⟩
  refine am_ev.call rfl rfl rfl ((s_M_kind hc).mono (by decide)) ?_
  show am_ev _ k_M_goals (9, [.ref 1000, .int x1, am_ju, am_ju], [.int r1], (zl sn sx, X, xr E G Q N A U Y K H tl, q)) oo
  rcases am_if hM with ⟨c3, hM⟩ | ⟨c3, hM⟩
  · refine am_ev.kt 2 19 13 [.ref 1000, .int x1, am_ju, am_ju] [] (zl sn sx, X, xr E G Q N A U Y K H tl, q) c3 (fun _ _ => rfl) ?_
    obtain ⟨rr, hc, hM⟩ := am_bind hM
    obtain ⟨r2, rfl⟩ : ∃ z, z = rr := ⟨_, rfl⟩
    refine am_ev.kg 2 (pc' := 21) (lv' := [.ref 1000, .int x1, am_ju, am_ju]) (st' := [.int x1, .ref 1000]) (h' := (zl sn sx, X, xr E G Q N A U Y K H tl, q)) (fun _ _ => rfl) ?_
    refine am_ev.call rfl rfl rfl ((s_M_reach hc).mono (by decide)) ?_
    show am_ev _ k_M_goals (24, [.ref 1000, .int x1, am_ju, am_ju], [.long r2], (zl sn sx, X, xr E G Q N A U Y K H tl, q)) oo
    obtain ⟨c4, hM⟩ := am_ifn hM
    refine am_ev.kc 5 31 [.ref 1000, .int x1, .long r2, am_ju] [.int ((po_men Q) (x1).toNatClampNeg)] (zl sn sx, X, xr E G Q N A U Y K H tl, q) c4 (fun _ _ => rfl) ?_
    obtain ⟨rr, hc, hM⟩ := am_bind hM
    obtain ⟨r3, rfl⟩ : ∃ z, z = rr := ⟨_, rfl⟩
    refine am_ev.call rfl rfl rfl ((s_M_kind hc).mono (by decide)) ?_
    show am_ev _ k_M_goals (34, [.ref 1000, .int x1, .long r2, am_ju], [.int r3], (zl sn sx, X, xr E G Q N A U Y K H tl, q)) oo
    rcases am_if hM with ⟨c5, hM⟩ | ⟨c5, hM⟩
    · refine am_ev.kt 2 92 39 [.ref 1000, .int x1, .long r2, am_ju] [] (zl sn sx, X, xr E G Q N A U Y K H tl, q) c5 (fun _ _ => rfl) ?_
      cases hM
      cases hx
      exact am_ev.kf 2 (fun _ _ => rfl)
    · refine am_ev.ke 2 92 39 [.ref 1000, .int x1, .long r2, am_ju] [] (zl sn sx, X, xr E G Q N A U Y K H tl, q) c5 (fun _ _ => rfl) ?_
      rcases am_if hM with ⟨c6, hM⟩ | ⟨c6, hM⟩
      · refine am_ev.kt 8 92 52 [.ref 1000, .int x1, .long r2, am_ju] [] (zl sn sx, X, xr E G Q N A U Y K H tl, q) c6 (fun _ _ => rfl) ?_
        cases hM
        cases hx
        exact am_ev.kf 2 (fun _ _ => rfl)
      · refine am_ev.ke 8 92 52 [.ref 1000, .int x1, .long r2, am_ju] [] (zl sn sx, X, xr E G Q N A U Y K H tl, q) c6 (fun _ _ => rfl) ?_
        obtain ⟨rr, hc, hM⟩ := am_bind hM
        obtain ⟨r4, rfl⟩ : ∃ z, z = rr := ⟨_, rfl⟩
        refine am_ev.kg 3 (pc' := 55) (lv' := [.ref 1000, .int x1, .long r2, am_ju]) (st' := [.int (1 : Int32), .ref 1000, .long r2]) (h' := (zl sn sx, X, xr E G Q N A U Y K H tl, q)) (fun _ _ => rfl) ?_
        refine am_ev.call rfl rfl rfl ((s_M_mayCastle hc).mono (by decide)) ?_
        show am_ev _ k_M_goals (58, [.ref 1000, .int x1, .long r2, am_ju], [.int r4, .long r2], (zl sn sx, X, xr E G Q N A U Y K H tl, q)) oo
        rcases am_if hM with ⟨c7, hM⟩ | ⟨c7, hM⟩
        · refine am_ev.kt 1 70 61 [.ref 1000, .int x1, .long r2, am_ju] [.long r2] (zl sn sx, X, xr E G Q N A U Y K H tl, q) c7 (fun _ _ => rfl) ?_
          refine am_ev.kg 1 (pc' := 71) (lv' := [.ref 1000, .int x1, .long r2, am_ju]) (st' := [.long (0 : Int64), .long r2]) (h' := (zl sn sx, X, xr E G Q N A U Y K H tl, q)) (fun _ _ => rfl) ?_
          refine am_ev.wk (lv' := [.ref 1000, .int x1, am_ju, am_ju]) (am_lc (Or.inr rfl) (am_lc (Or.inr rfl) (am_lc (Or.inl rfl) (am_lc (Or.inr rfl) am_ln)))) ?_
          exact sj_M_goals_71 hx hM
        · refine am_ev.ke 1 70 61 [.ref 1000, .int x1, .long r2, am_ju] [.long r2] (zl sn sx, X, xr E G Q N A U Y K H tl, q) c7 (fun _ _ => rfl) ?_
          obtain ⟨rr, hc, hM⟩ := am_bind hM
          obtain ⟨r5, rfl⟩ : ∃ z, z = rr := ⟨_, rfl⟩
          refine am_ev.kg 3 (pc' := 64) (lv' := [.ref 1000, .int x1, .long r2, am_ju]) (st' := [.int (x1 + (2 : Int32)), .long r2]) (h' := (zl sn sx, X, xr E G Q N A U Y K H tl, q)) (fun _ _ => rfl) ?_
          refine am_ev.call rfl rfl rfl ((s_M_bit hc).mono (by decide)) ?_
          show am_ev _ k_M_goals (67, [.ref 1000, .int x1, .long r2, am_ju], [.long r5, .long r2], (zl sn sx, X, xr E G Q N A U Y K H tl, q)) oo
          refine am_ev.kg 1 (pc' := 71) (lv' := [.ref 1000, .int x1, .long r2, am_ju]) (st' := [.long r5, .long r2]) (h' := (zl sn sx, X, xr E G Q N A U Y K H tl, q)) (fun _ _ => rfl) ?_
          refine am_ev.wk (lv' := [.ref 1000, .int x1, am_ju, am_ju]) (am_lc (Or.inr rfl) (am_lc (Or.inr rfl) (am_lc (Or.inl rfl) (am_lc (Or.inr rfl) am_ln)))) ?_
          exact sj_M_goals_71 hx hM
  · refine am_ev.ke 2 19 13 [.ref 1000, .int x1, am_ju, am_ju] [] (zl sn sx, X, xr E G Q N A U Y K H tl, q) c3 (fun _ _ => rfl) ?_
    obtain ⟨rr, hc, hM⟩ := am_bind hM
    obtain ⟨r6, rfl⟩ : ∃ z, z = rr := ⟨_, rfl⟩
    refine am_ev.kg 2 (pc' := 15) (lv' := [.ref 1000, .int x1, am_ju, am_ju]) (st' := [.int x1, .ref 1000]) (h' := (zl sn sx, X, xr E G Q N A U Y K H tl, q)) (fun _ _ => rfl) ?_
    refine am_ev.call rfl rfl rfl ((s_M_pawnGoals hc).mono (by decide)) ?_
    show am_ev _ k_M_goals (18, [.ref 1000, .int x1, am_ju, am_ju], [.long r6], (zl sn sx, X, xr E G Q N A U Y K H tl, q)) oo
    cases hM
    cases hx
    exact am_ev.kf 1 (fun _ _ => rfl)
theorem s_M_goals {fu : Nat} {sn : Nat} {sx : Nat → Int32} {X : List am_C} {q : Nat × Nat} {tl : List am_C} {E : ThT} {G : RtT} {Q : PoT} {N : NuT} {A : PaT} {U : UnT} {Y : LiT} {K : KeT} {H : HlT} {x1 : Int32} {ov : Int64} (hM : f_M_goals fu x1 Q = some ov) : am_cv 8 k_M_goals [.ref 1000, .int x1] (zl sn sx, X, xr E G Q N A U Y K H tl, q) (.inl (some (.long ov)), (zl sn sx, X, xr E G Q N A U Y K H tl, q)) := am_cv.of rfl (se_M_goals (e := ov) (show y_M_goals sn sx X q tl E G Q N A U Y K H _ ov from rfl) hM)
def y_M_list (sn : Nat) (sx : Nat → Int32) (X : List am_C) (q : Nat × Nat) (tl : List am_C) (E : ThT) (G : RtT) (N : NuT) (A : PaT) (K : KeT) (H : HlT) (oo : am_O) : Int32 × PoT × UnT × LiT → Prop
  | (ov, oQ, oU, oY) => oo = (.inl (some (.int ov)), (zl sn sx, X, xr E G oQ N A oU oY K H tl, q))
def x_M_list_124 (sn : Nat) (sx : Nat → Int32) (X : List am_C) (q : Nat × Nat) (tl : List am_C) (E : ThT) (G : RtT) (N : NuT) (A : PaT) (K : KeT) (H : HlT) (x1 : Int32) (x3 : Int32) (l4 : Int64) (x6 : Int32) (x7 : Int32) (oo : am_O) : (Int32 × PoT × UnT × LiT) → Prop
  | (x2, Q, U, Y) => am_ev 8 k_M_list (187, [.ref 1000, .int x1, .int x2, .int x3, .long l4, am_ju, .int x6, am_ju, am_ju, am_ju], [], (zl sn sx, X, xr E G Q N A U Y K H tl, q)) oo
def x_M_list_36 (sn : Nat) (sx : Nat → Int32) (X : List am_C) (q : Nat × Nat) (tl : List am_C) (E : ThT) (G : RtT) (N : NuT) (A : PaT) (K : KeT) (H : HlT) (x1 : Int32) (x3 : Int32) (l4 : Int64) (oo : am_O) : (Int32 × PoT × UnT × LiT) → Prop
  | (x2, Q, U, Y) => am_ev 8 k_M_list (193, [.ref 1000, .int x1, .int x2, .int x3, am_ju, am_ju, am_ju, am_ju, am_ju, am_ju], [], (zl sn sx, X, xr E G Q N A U Y K H tl, q)) oo
def x_M_list_4 (sn : Nat) (sx : Nat → Int32) (X : List am_C) (q : Nat × Nat) (tl : List am_C) (E : ThT) (G : RtT) (N : NuT) (A : PaT) (K : KeT) (H : HlT) (x1 : Int32) (oo : am_O) : (Int32 × PoT × UnT × LiT) → Prop
  | (x2, Q, U, Y) => am_ev 8 k_M_list (199, [.ref 1000, .int x1, .int x2, am_ju, am_ju, am_ju, am_ju, am_ju, am_ju, am_ju], [], (zl sn sx, X, xr E G Q N A U Y K H tl, q)) oo
theorem sj_M_list_199 {fu : Nat} {sn : Nat} {sx : Nat → Int32} {X : List am_C} {q : Nat × Nat} {tl : List am_C} {E : ThT} {G : RtT} {Q : PoT} {N : NuT} {A : PaT} {U : UnT} {Y : LiT} {K : KeT} {H : HlT} {x1 : Int32} {x2 : Int32} {oo : am_O} {e : Int32 × PoT × UnT × LiT} (hx : y_M_list sn sx X q tl E G N A K H oo e) (hM : j_M_list_199 fu Q U Y x1 x2 = some e) : am_ev 8 k_M_list (199, [.ref 1000, .int x1, .int x2, am_ju, am_ju, am_ju, am_ju, am_ju, am_ju, am_ju], [], (zl sn sx, X, xr E G Q N A U Y K H tl, q)) oo := by
  unfold j_M_list_199 at hM
  obtain ⟨c1, hM⟩ := am_ifn hM
  refine am_ev.kc 5 206 [.ref 1000, .int x1, .int x2, am_ju, am_ju, am_ju, am_ju, am_ju, am_ju, am_ju] [] (zl sn sx, X, xr E G Q N A U ((li_lists Y), (upd (li_counts Y) (x1).toNatClampNeg x2)) K H tl, q) c1 (fun _ _ => rfl) ?_
  cases hM
  cases hx
  exact am_ev.kf 2 (fun _ _ => rfl)
theorem sj_M_list_193 {fu : Nat} {sn : Nat} {sx : Nat → Int32} {X : List am_C} {q : Nat × Nat} {tl : List am_C} {E : ThT} {G : RtT} {Q : PoT} {N : NuT} {A : PaT} {U : UnT} {Y : LiT} {K : KeT} {H : HlT} {x1 : Int32} {x2 : Int32} {x3 : Int32} {oo : am_O} {e : (Int32 × PoT × UnT × LiT)} {gg : Int32 → Int32 → PoT → UnT → LiT → Option ((Int32 × PoT × UnT × LiT))} (hx : x_M_list_4 sn sx X q tl E G N A K H x1 oo e) (hg : ∀ (x2 : Int32) (x3 : Int32) (Q : PoT) (U : UnT) (Y : LiT), gg x2 x3 Q U Y = some e → am_ev 8 k_M_list (4, [.ref 1000, .int x1, .int x2, .int x3, am_ju, am_ju, am_ju, am_ju, am_ju, am_ju], [], (zl sn sx, X, xr E G Q N A U Y K H tl, q)) oo) (hM : j_M_list_193 fu gg Q U Y x1 x2 x3 = some e) : am_ev 8 k_M_list (193, [.ref 1000, .int x1, .int x2, .int x3, am_ju, am_ju, am_ju, am_ju, am_ju, am_ju], [], (zl sn sx, X, xr E G Q N A U Y K H tl, q)) oo := by
  unfold j_M_list_193 at hM
  refine am_ev.kg 2 (pc' := 4) (lv' := [.ref 1000, .int x1, .int x2, .int (x3 + (1 : Int32)), am_ju, am_ju, am_ju, am_ju, am_ju, am_ju]) (st' := []) (h' := (zl sn sx, X, xr E G Q N A U Y K H tl, q)) (fun _ _ => rfl) ?_
  exact hg _ _ _ _ _ hM
theorem sj_M_list_187 {fu : Nat} {sn : Nat} {sx : Nat → Int32} {X : List am_C} {q : Nat × Nat} {tl : List am_C} {E : ThT} {G : RtT} {Q : PoT} {N : NuT} {A : PaT} {U : UnT} {Y : LiT} {K : KeT} {H : HlT} {x1 : Int32} {x2 : Int32} {x3 : Int32} {l4 : Int64} {x6 : Int32} {oo : am_O} {e : (Int32 × PoT × UnT × LiT)} {gg : Int32 → Int32 → PoT → UnT → LiT → Option ((Int32 × PoT × UnT × LiT))} (hx : x_M_list_36 sn sx X q tl E G N A K H x1 x3 l4 oo e) (hg : ∀ (x2 : Int32) (x6 : Int32) (Q : PoT) (U : UnT) (Y : LiT), gg x2 x6 Q U Y = some e → am_ev 8 k_M_list (36, [.ref 1000, .int x1, .int x2, .int x3, .long l4, am_ju, .int x6, am_ju, am_ju, am_ju], [], (zl sn sx, X, xr E G Q N A U Y K H tl, q)) oo) (hM : j_M_list_187 fu gg Q U Y x1 x2 x3 l4 x6 = some e) : am_ev 8 k_M_list (187, [.ref 1000, .int x1, .int x2, .int x3, .long l4, am_ju, .int x6, am_ju, am_ju, am_ju], [], (zl sn sx, X, xr E G Q N A U Y K H tl, q)) oo := by
  unfold j_M_list_187 at hM
  refine am_ev.kg 2 (pc' := 36) (lv' := [.ref 1000, .int x1, .int x2, .int x3, .long l4, am_ju, .int (x6 + (1 : Int32)), am_ju, am_ju, am_ju]) (st' := []) (h' := (zl sn sx, X, xr E G Q N A U Y K H tl, q)) (fun _ _ => rfl) ?_
  exact hg _ _ _ _ _ hM
theorem sj_M_list_181 {fu : Nat} {sn : Nat} {sx : Nat → Int32} {X : List am_C} {q : Nat × Nat} {tl : List am_C} {E : ThT} {G : RtT} {Q : PoT} {N : NuT} {A : PaT} {U : UnT} {Y : LiT} {K : KeT} {H : HlT} {x1 : Int32} {x2 : Int32} {x3 : Int32} {l4 : Int64} {x6 : Int32} {x7 : Int32} {x8 : Int32} {oo : am_O} {e : (Int32 × PoT × UnT × LiT)} {gg : Int32 → Int32 → PoT → UnT → LiT → Option ((Int32 × PoT × UnT × LiT))} (hx : x_M_list_124 sn sx X q tl E G N A K H x1 x3 l4 x6 x7 oo e) (hg : ∀ (x2 : Int32) (x8 : Int32) (Q : PoT) (U : UnT) (Y : LiT), gg x2 x8 Q U Y = some e → am_ev 8 k_M_list (124, [.ref 1000, .int x1, .int x2, .int x3, .long l4, am_ju, .int x6, .int x7, .int x8, am_ju], [], (zl sn sx, X, xr E G Q N A U Y K H tl, q)) oo) (hM : j_M_list_181 fu gg Q U Y x1 x2 x3 l4 x6 x7 x8 = some e) : am_ev 8 k_M_list (181, [.ref 1000, .int x1, .int x2, .int x3, .long l4, am_ju, .int x6, .int x7, .int x8, am_ju], [], (zl sn sx, X, xr E G Q N A U Y K H tl, q)) oo := by
  unfold j_M_list_181 at hM
  refine am_ev.kg 2 (pc' := 124) (lv' := [.ref 1000, .int x1, .int x2, .int x3, .long l4, am_ju, .int x6, .int x7, .int (x8 + (1 : Int32)), am_ju]) (st' := []) (h' := (zl sn sx, X, xr E G Q N A U Y K H tl, q)) (fun _ _ => rfl) ?_
  exact hg _ _ _ _ _ hM
theorem sj_M_list_136 {fu : Nat} {sn : Nat} {sx : Nat → Int32} {X : List am_C} {q : Nat × Nat} {tl : List am_C} {E : ThT} {G : RtT} {Q : PoT} {N : NuT} {A : PaT} {U : UnT} {Y : LiT} {K : KeT} {H : HlT} {x1 : Int32} {x2 : Int32} {x3 : Int32} {l4 : Int64} {x6 : Int32} {x7 : Int32} {x8 : Int32} {s0 : Int32} {s1 : Int32} {oo : am_O} {e : (Int32 × PoT × UnT × LiT)} {gg : Int32 → Int32 → PoT → UnT → LiT → Option ((Int32 × PoT × UnT × LiT))} (hx : x_M_list_124 sn sx X q tl E G N A K H x1 x3 l4 x6 x7 oo e) (hg : ∀ (x2 : Int32) (x8 : Int32) (Q : PoT) (U : UnT) (Y : LiT), gg x2 x8 Q U Y = some e → am_ev 8 k_M_list (124, [.ref 1000, .int x1, .int x2, .int x3, .long l4, am_ju, .int x6, .int x7, .int x8, am_ju], [], (zl sn sx, X, xr E G Q N A U Y K H tl, q)) oo) (hM : j_M_list_136 fu gg Q U Y x1 x2 x3 l4 x6 x7 x8 s0 s1 = some e) : am_ev 8 k_M_list (136, [.ref 1000, .int x1, .int x2, .int x3, .long l4, am_ju, .int x6, .int x7, .int x8, am_ju], [.int s1, .int s0], (zl sn sx, X, xr E G Q N A U Y K H tl, q)) oo := by
  unfold j_M_list_136 at hM
  rcases am_if hM with ⟨c2, hM⟩ | ⟨c2, hM⟩
  · refine am_ev.kt 1 187 139 [.ref 1000, .int x1, .int x2, .int x3, .long l4, am_ju, .int x6, .int x7, .int x8, am_ju] [] (zl sn sx, X, xr E G Q N A U Y K H tl, q) c2 (fun _ _ => rfl) ?_
    refine am_ev.wk (lv' := [.ref 1000, .int x1, .int x2, .int x3, .long l4, am_ju, .int x6, am_ju, am_ju, am_ju]) (am_lc (Or.inr rfl) (am_lc (Or.inr rfl) (am_lc (Or.inr rfl) (am_lc (Or.inr rfl) (am_lc (Or.inr rfl) (am_lc (Or.inr rfl) (am_lc (Or.inr rfl) (am_lc (Or.inl rfl) (am_lc (Or.inl rfl) (am_lc (Or.inr rfl) am_ln)))))))))) ?_
    cases hM
    exact hx
  · refine am_ev.ke 1 187 139 [.ref 1000, .int x1, .int x2, .int x3, .long l4, am_ju, .int x6, .int x7, .int x8, am_ju] [] (zl sn sx, X, xr E G Q N A U Y K H tl, q) c2 (fun _ _ => rfl) ?_
    obtain ⟨rr, hc, hM⟩ := am_bind hM
    obtain ⟨r5, qg6, ug7⟩ := rr
    refine am_ev.kg 12 (pc' := 158) (lv' := [.ref 1000, .int x1, .int x2, .int x3, .long l4, am_ju, .int x6, .int x7, .int x8, .int ((x3 + ((64 : Int32) * x6)) + ((4096 : Int32) * x8))]) (st' := [.int ((x3 + ((64 : Int32) * x6)) + ((4096 : Int32) * x8)), .ref 1000]) (h' := (zl sn sx, X, xr E G Q N A U Y K H tl, q)) (fun _ _ => rfl) ?_
    refine am_ev.call rfl rfl rfl ((s_M_isLegal hc).mono (by decide)) ?_
    show am_ev _ k_M_list (161, [.ref 1000, .int x1, .int x2, .int x3, .long l4, am_ju, .int x6, .int x7, .int x8, .int ((x3 + ((64 : Int32) * x6)) + ((4096 : Int32) * x8))], [.int r5], (zl sn sx, X, xr E G qg6 N A ug7 Y K H tl, q)) oo
    rcases am_if hM with ⟨c3, hM⟩ | ⟨c3, hM⟩
    · refine am_ev.kt 1 181 164 [.ref 1000, .int x1, .int x2, .int x3, .long l4, am_ju, .int x6, .int x7, .int x8, .int ((x3 + ((64 : Int32) * x6)) + ((4096 : Int32) * x8))] [] (zl sn sx, X, xr E G qg6 N A ug7 Y K H tl, q) c3 (fun _ _ => rfl) ?_
      refine am_ev.wk (lv' := [.ref 1000, .int x1, .int x2, .int x3, .long l4, am_ju, .int x6, .int x7, .int x8, am_ju]) (am_lc (Or.inr rfl) (am_lc (Or.inr rfl) (am_lc (Or.inr rfl) (am_lc (Or.inr rfl) (am_lc (Or.inr rfl) (am_lc (Or.inr rfl) (am_lc (Or.inr rfl) (am_lc (Or.inr rfl) (am_lc (Or.inr rfl) (am_lc (Or.inl rfl) am_ln)))))))))) ?_
      exact sj_M_list_181 hx hg hM
    · refine am_ev.ke 1 181 164 [.ref 1000, .int x1, .int x2, .int x3, .long l4, am_ju, .int x6, .int x7, .int x8, .int ((x3 + ((64 : Int32) * x6)) + ((4096 : Int32) * x8))] [] (zl sn sx, X, xr E G qg6 N A ug7 Y K H tl, q) c3 (fun _ _ => rfl) ?_
      obtain ⟨c4, hM⟩ := am_ifn hM
      refine am_ev.kc 9 178 [.ref 1000, .int x1, .int x2, .int x3, .long l4, am_ju, .int x6, .int x7, .int x8, .int ((x3 + ((64 : Int32) * x6)) + ((4096 : Int32) * x8))] [] (zl sn sx, X, xr E G qg6 N A ug7 ((upd (li_lists Y) ((((2048 : Int32) * x1) + x2)).toNatClampNeg ((x3 + ((64 : Int32) * x6)) + ((4096 : Int32) * x8))), (li_counts Y)) K H tl, q) c4 (fun _ _ => rfl) ?_
      refine am_ev.kg 1 (pc' := 181) (lv' := [.ref 1000, .int x1, .int (x2 + (1 : Int32)), .int x3, .long l4, am_ju, .int x6, .int x7, .int x8, .int ((x3 + ((64 : Int32) * x6)) + ((4096 : Int32) * x8))]) (st' := []) (h' := (zl sn sx, X, xr E G qg6 N A ug7 ((upd (li_lists Y) ((((2048 : Int32) * x1) + x2)).toNatClampNeg ((x3 + ((64 : Int32) * x6)) + ((4096 : Int32) * x8))), (li_counts Y)) K H tl, q)) (fun _ _ => rfl) ?_
      refine am_ev.wk (lv' := [.ref 1000, .int x1, .int (x2 + (1 : Int32)), .int x3, .long l4, am_ju, .int x6, .int x7, .int x8, am_ju]) (am_lc (Or.inr rfl) (am_lc (Or.inr rfl) (am_lc (Or.inr rfl) (am_lc (Or.inr rfl) (am_lc (Or.inr rfl) (am_lc (Or.inr rfl) (am_lc (Or.inr rfl) (am_lc (Or.inr rfl) (am_lc (Or.inr rfl) (am_lc (Or.inl rfl) am_ln)))))))))) ?_
      exact sj_M_list_181 hx hg hM
theorem sb_M_list_124 {fu : Nat} {sn : Nat} {sx : Nat → Int32} {X : List am_C} {q : Nat × Nat} {tl : List am_C} {E : ThT} {G : RtT} {N : NuT} {A : PaT} {K : KeT} {H : HlT} {x1 : Int32} {x3 : Int32} {l4 : Int64} {x6 : Int32} {x7 : Int32} {oo : am_O} {e : (Int32 × PoT × UnT × LiT)} {gg : Int32 → Int32 → PoT → UnT → LiT → Option ((Int32 × PoT × UnT × LiT))} (hx : x_M_list_124 sn sx X q tl E G N A K H x1 x3 l4 x6 x7 oo e) (hg : ∀ (x2 : Int32) (x8 : Int32) (Q : PoT) (U : UnT) (Y : LiT), gg x2 x8 Q U Y = some e → am_ev 8 k_M_list (124, [.ref 1000, .int x1, .int x2, .int x3, .long l4, am_ju, .int x6, .int x7, .int x8, am_ju], [], (zl sn sx, X, xr E G Q N A U Y K H tl, q)) oo) {x2 : Int32} {x8 : Int32} {Q : PoT} {U : UnT} {Y : LiT} (hM : b_M_list_124 fu x1 x3 l4 x6 x7 gg x2 x8 Q U Y = some e) : am_ev 8 k_M_list (124, [.ref 1000, .int x1, .int x2, .int x3, .long l4, am_ju, .int x6, .int x7, .int x8, am_ju], [], (zl sn sx, X, xr E G Q N A U Y K H tl, q)) oo := by
  unfold b_M_list_124 at hM
  rcases am_if hM with ⟨c5, hM⟩ | ⟨c5, hM⟩
  · refine am_ev.kt 3 135 131 [.ref 1000, .int x1, .int x2, .int x3, .long l4, am_ju, .int x6, .int x7, .int x8, am_ju] [.int x8] (zl sn sx, X, xr E G Q N A U Y K H tl, q) c5 (fun _ _ => rfl) ?_
    refine am_ev.kg 1 (pc' := 136) (lv' := [.ref 1000, .int x1, .int x2, .int x3, .long l4, am_ju, .int x6, .int x7, .int x8, am_ju]) (st' := [.int (0 : Int32), .int x8]) (h' := (zl sn sx, X, xr E G Q N A U Y K H tl, q)) (fun _ _ => rfl) ?_
    exact sj_M_list_136 hx hg hM
  · refine am_ev.ke 3 135 131 [.ref 1000, .int x1, .int x2, .int x3, .long l4, am_ju, .int x6, .int x7, .int x8, am_ju] [.int x8] (zl sn sx, X, xr E G Q N A U Y K H tl, q) c5 (fun _ _ => rfl) ?_
    refine am_ev.kg 2 (pc' := 136) (lv' := [.ref 1000, .int x1, .int x2, .int x3, .long l4, am_ju, .int x6, .int x7, .int x8, am_ju]) (st' := [.int (5 : Int32), .int x8]) (h' := (zl sn sx, X, xr E G Q N A U Y K H tl, q)) (fun _ _ => rfl) ?_
    exact sj_M_list_136 hx hg hM
theorem sl_M_list_124 {fu : Nat} {sn : Nat} {sx : Nat → Int32} {X : List am_C} {q : Nat × Nat} {tl : List am_C} {E : ThT} {G : RtT} {N : NuT} {A : PaT} {K : KeT} {H : HlT} {x1 : Int32} {x3 : Int32} {l4 : Int64} {x6 : Int32} {x7 : Int32} {oo : am_O} {e : (Int32 × PoT × UnT × LiT)} (hx : x_M_list_124 sn sx X q tl E G N A K H x1 x3 l4 x6 x7 oo e) : ∀ (n : Nat) (x2 : Int32) (x8 : Int32) (Q : PoT) (U : UnT) (Y : LiT), l_M_list_124 fu x1 x3 l4 x6 x7 n x2 x8 Q U Y = some e → am_ev 8 k_M_list (124, [.ref 1000, .int x1, .int x2, .int x3, .long l4, am_ju, .int x6, .int x7, .int x8, am_ju], [], (zl sn sx, X, xr E G Q N A U Y K H tl, q)) oo
  | 0, _, _, _, _, _, hM => by have h : (none : Option ((Int32 × PoT × UnT × LiT))) = some e := hM; cases h
  | n + 1, _, _, _, _, _, hM => sb_M_list_124 hx (fun _ _ _ _ _ hM => sl_M_list_124 hx n _ _ _ _ _ hM) hM
theorem sj_M_list_122 {fu : Nat} {sn : Nat} {sx : Nat → Int32} {X : List am_C} {q : Nat × Nat} {tl : List am_C} {E : ThT} {G : RtT} {Q : PoT} {N : NuT} {A : PaT} {U : UnT} {Y : LiT} {K : KeT} {H : HlT} {x1 : Int32} {x2 : Int32} {x3 : Int32} {l4 : Int64} {x6 : Int32} {x7 : Int32} {s0 : Int32} {oo : am_O} {e : (Int32 × PoT × UnT × LiT)} {gg : Int32 → Int32 → PoT → UnT → LiT → Option ((Int32 × PoT × UnT × LiT))} (hx : x_M_list_36 sn sx X q tl E G N A K H x1 x3 l4 oo e) (hg : ∀ (x2 : Int32) (x6 : Int32) (Q : PoT) (U : UnT) (Y : LiT), gg x2 x6 Q U Y = some e → am_ev 8 k_M_list (36, [.ref 1000, .int x1, .int x2, .int x3, .long l4, am_ju, .int x6, am_ju, am_ju, am_ju], [], (zl sn sx, X, xr E G Q N A U Y K H tl, q)) oo) (hM : j_M_list_122 fu gg Q U Y x1 x2 x3 l4 x6 x7 s0 = some e) : am_ev 8 k_M_list (122, [.ref 1000, .int x1, .int x2, .int x3, .long l4, am_ju, .int x6, .int x7, am_ju, am_ju], [.int s0], (zl sn sx, X, xr E G Q N A U Y K H tl, q)) oo := by
  unfold j_M_list_122 at hM
  refine am_ev.kg 1 (pc' := 124) (lv' := [.ref 1000, .int x1, .int x2, .int x3, .long l4, am_ju, .int x6, .int x7, .int s0, am_ju]) (st' := []) (h' := (zl sn sx, X, xr E G Q N A U Y K H tl, q)) (fun _ _ => rfl) ?_
  obtain ⟨z, hz, hM⟩ := am_bind hM
  obtain ⟨x2_1, qz_1, uz_1, yz_1⟩ := z
  refine sl_M_list_124 ?_ _ _ _ _ _ _ hz
  show am_ev 8 k_M_list (187, [.ref 1000, .int x1, .int x2_1, .int x3, .long l4, am_ju, .int x6, am_ju, am_ju, am_ju], [], (zl sn sx, X, xr E G qz_1 N A uz_1 yz_1 K H tl, q)) oo
  exact sj_M_list_187 hx hg hM
theorem sj_M_list_110 {fu : Nat} {sn : Nat} {sx : Nat → Int32} {X : List am_C} {q : Nat × Nat} {tl : List am_C} {E : ThT} {G : RtT} {Q : PoT} {N : NuT} {A : PaT} {U : UnT} {Y : LiT} {K : KeT} {H : HlT} {x1 : Int32} {x2 : Int32} {x3 : Int32} {l4 : Int64} {x6 : Int32} {s0 : Int32} {oo : am_O} {e : (Int32 × PoT × UnT × LiT)} {gg : Int32 → Int32 → PoT → UnT → LiT → Option ((Int32 × PoT × UnT × LiT))} (hx : x_M_list_36 sn sx X q tl E G N A K H x1 x3 l4 oo e) (hg : ∀ (x2 : Int32) (x6 : Int32) (Q : PoT) (U : UnT) (Y : LiT), gg x2 x6 Q U Y = some e → am_ev 8 k_M_list (36, [.ref 1000, .int x1, .int x2, .int x3, .long l4, am_ju, .int x6, am_ju, am_ju, am_ju], [], (zl sn sx, X, xr E G Q N A U Y K H tl, q)) oo) (hM : j_M_list_110 fu gg Q U Y x1 x2 x3 l4 x6 s0 = some e) : am_ev 8 k_M_list (110, [.ref 1000, .int x1, .int x2, .int x3, .long l4, am_ju, .int x6, am_ju, am_ju, am_ju], [.int s0], (zl sn sx, X, xr E G Q N A U Y K H tl, q)) oo := by
  unfold j_M_list_110 at hM
  rcases am_if hM with ⟨c6, hM⟩ | ⟨c6, hM⟩
  · refine am_ev.kt 3 121 117 [.ref 1000, .int x1, .int x2, .int x3, .long l4, am_ju, .int x6, .int s0, am_ju, am_ju] [] (zl sn sx, X, xr E G Q N A U Y K H tl, q) c6 (fun _ _ => rfl) ?_
    refine am_ev.kg 1 (pc' := 122) (lv' := [.ref 1000, .int x1, .int x2, .int x3, .long l4, am_ju, .int x6, .int s0, am_ju, am_ju]) (st' := [.int (0 : Int32)]) (h' := (zl sn sx, X, xr E G Q N A U Y K H tl, q)) (fun _ _ => rfl) ?_
    exact sj_M_list_122 hx hg hM
  · refine am_ev.ke 3 121 117 [.ref 1000, .int x1, .int x2, .int x3, .long l4, am_ju, .int x6, .int s0, am_ju, am_ju] [] (zl sn sx, X, xr E G Q N A U Y K H tl, q) c6 (fun _ _ => rfl) ?_
    refine am_ev.kg 2 (pc' := 122) (lv' := [.ref 1000, .int x1, .int x2, .int x3, .long l4, am_ju, .int x6, .int s0, am_ju, am_ju]) (st' := [.int (2 : Int32)]) (h' := (zl sn sx, X, xr E G Q N A U Y K H tl, q)) (fun _ _ => rfl) ?_
    exact sj_M_list_122 hx hg hM
theorem sj_M_list_109 {fu : Nat} {sn : Nat} {sx : Nat → Int32} {X : List am_C} {q : Nat × Nat} {tl : List am_C} {E : ThT} {G : RtT} {Q : PoT} {N : NuT} {A : PaT} {U : UnT} {Y : LiT} {K : KeT} {H : HlT} {x1 : Int32} {x2 : Int32} {x3 : Int32} {l4 : Int64} {x6 : Int32} {oo : am_O} {e : (Int32 × PoT × UnT × LiT)} {gg : Int32 → Int32 → PoT → UnT → LiT → Option ((Int32 × PoT × UnT × LiT))} (hx : x_M_list_36 sn sx X q tl E G N A K H x1 x3 l4 oo e) (hg : ∀ (x2 : Int32) (x6 : Int32) (Q : PoT) (U : UnT) (Y : LiT), gg x2 x6 Q U Y = some e → am_ev 8 k_M_list (36, [.ref 1000, .int x1, .int x2, .int x3, .long l4, am_ju, .int x6, am_ju, am_ju, am_ju], [], (zl sn sx, X, xr E G Q N A U Y K H tl, q)) oo) (hM : j_M_list_109 fu gg Q U Y x1 x2 x3 l4 x6 = some e) : am_ev 8 k_M_list (109, [.ref 1000, .int x1, .int x2, .int x3, .long l4, am_ju, .int x6, am_ju, am_ju, am_ju], [], (zl sn sx, X, xr E G Q N A U Y K H tl, q)) oo := by
  unfold j_M_list_109 at hM
  refine am_ev.kg 1 (pc' := 110) (lv' := [.ref 1000, .int x1, .int x2, .int x3, .long l4, am_ju, .int x6, am_ju, am_ju, am_ju]) (st' := [.int (0 : Int32)]) (h' := (zl sn sx, X, xr E G Q N A U Y K H tl, q)) (fun _ _ => rfl) ?_
  exact sj_M_list_110 hx hg hM
theorem sj_M_list_105 {fu : Nat} {sn : Nat} {sx : Nat → Int32} {X : List am_C} {q : Nat × Nat} {tl : List am_C} {E : ThT} {G : RtT} {Q : PoT} {N : NuT} {A : PaT} {U : UnT} {Y : LiT} {K : KeT} {H : HlT} {x1 : Int32} {x2 : Int32} {x3 : Int32} {l4 : Int64} {x6 : Int32} {oo : am_O} {e : (Int32 × PoT × UnT × LiT)} {gg : Int32 → Int32 → PoT → UnT → LiT → Option ((Int32 × PoT × UnT × LiT))} (hx : x_M_list_36 sn sx X q tl E G N A K H x1 x3 l4 oo e) (hg : ∀ (x2 : Int32) (x6 : Int32) (Q : PoT) (U : UnT) (Y : LiT), gg x2 x6 Q U Y = some e → am_ev 8 k_M_list (36, [.ref 1000, .int x1, .int x2, .int x3, .long l4, am_ju, .int x6, am_ju, am_ju, am_ju], [], (zl sn sx, X, xr E G Q N A U Y K H tl, q)) oo) (hM : j_M_list_105 fu gg Q U Y x1 x2 x3 l4 x6 = some e) : am_ev 8 k_M_list (105, [.ref 1000, .int x1, .int x2, .int x3, .long l4, am_ju, .int x6, am_ju, am_ju, am_ju], [], (zl sn sx, X, xr E G Q N A U Y K H tl, q)) oo := by
  unfold j_M_list_105 at hM
  refine am_ev.kg 2 (pc' := 110) (lv' := [.ref 1000, .int x1, .int x2, .int x3, .long l4, am_ju, .int x6, am_ju, am_ju, am_ju]) (st' := [.int (1 : Int32)]) (h' := (zl sn sx, X, xr E G Q N A U Y K H tl, q)) (fun _ _ => rfl) ?_
  exact sj_M_list_110 hx hg hM
theorem sb_M_list_36 {fu : Nat} {sn : Nat} {sx : Nat → Int32} {X : List am_C} {q : Nat × Nat} {tl : List am_C} {E : ThT} {G : RtT} {N : NuT} {A : PaT} {K : KeT} {H : HlT} {x1 : Int32} {x3 : Int32} {l4 : Int64} {oo : am_O} {e : (Int32 × PoT × UnT × LiT)} {gg : Int32 → Int32 → PoT → UnT → LiT → Option ((Int32 × PoT × UnT × LiT))} (hx : x_M_list_36 sn sx X q tl E G N A K H x1 x3 l4 oo e) (hg : ∀ (x2 : Int32) (x6 : Int32) (Q : PoT) (U : UnT) (Y : LiT), gg x2 x6 Q U Y = some e → am_ev 8 k_M_list (36, [.ref 1000, .int x1, .int x2, .int x3, .long l4, am_ju, .int x6, am_ju, am_ju, am_ju], [], (zl sn sx, X, xr E G Q N A U Y K H tl, q)) oo) {x2 : Int32} {x6 : Int32} {Q : PoT} {U : UnT} {Y : LiT} (hM : b_M_list_36 fu x1 x3 l4 gg x2 x6 Q U Y = some e) : am_ev 8 k_M_list (36, [.ref 1000, .int x1, .int x2, .int x3, .long l4, am_ju, .int x6, am_ju, am_ju, am_ju], [], (zl sn sx, X, xr E G Q N A U Y K H tl, q)) oo := by
  unfold b_M_list_36 at hM
  rcases am_if hM with ⟨c7, hM⟩ | ⟨c7, hM⟩
  · refine am_ev.kt 3 193 43 [.ref 1000, .int x1, .int x2, .int x3, .long l4, am_ju, .int x6, am_ju, am_ju, am_ju] [] (zl sn sx, X, xr E G Q N A U Y K H tl, q) c7 (fun _ _ => rfl) ?_
    refine am_ev.wk (lv' := [.ref 1000, .int x1, .int x2, .int x3, am_ju, am_ju, am_ju, am_ju, am_ju, am_ju]) (am_lc (Or.inr rfl) (am_lc (Or.inr rfl) (am_lc (Or.inr rfl) (am_lc (Or.inr rfl) (am_lc (Or.inl rfl) (am_lc (Or.inr rfl) (am_lc (Or.inl rfl) (am_lc (Or.inr rfl) (am_lc (Or.inr rfl) (am_lc (Or.inr rfl) am_ln)))))))))) ?_
    cases hM
    exact hx
  · refine am_ev.ke 3 193 43 [.ref 1000, .int x1, .int x2, .int x3, .long l4, am_ju, .int x6, am_ju, am_ju, am_ju] [] (zl sn sx, X, xr E G Q N A U Y K H tl, q) c7 (fun _ _ => rfl) ?_
    rcases am_if hM with ⟨c8, hM⟩ | ⟨c8, hM⟩
    · refine am_ev.kt 6 193 53 [.ref 1000, .int x1, .int x2, .int x3, .long l4, am_ju, .int x6, am_ju, am_ju, am_ju] [] (zl sn sx, X, xr E G Q N A U Y K H tl, q) c8 (fun _ _ => rfl) ?_
      refine am_ev.wk (lv' := [.ref 1000, .int x1, .int x2, .int x3, am_ju, am_ju, am_ju, am_ju, am_ju, am_ju]) (am_lc (Or.inr rfl) (am_lc (Or.inr rfl) (am_lc (Or.inr rfl) (am_lc (Or.inr rfl) (am_lc (Or.inl rfl) (am_lc (Or.inr rfl) (am_lc (Or.inl rfl) (am_lc (Or.inr rfl) (am_lc (Or.inr rfl) (am_lc (Or.inr rfl) am_ln)))))))))) ?_
      cases hM
      exact hx
    · refine am_ev.ke 6 193 53 [.ref 1000, .int x1, .int x2, .int x3, .long l4, am_ju, .int x6, am_ju, am_ju, am_ju] [] (zl sn sx, X, xr E G Q N A U Y K H tl, q) c8 (fun _ _ => rfl) ?_
      rcases am_if hM with ⟨c9, hM⟩ | ⟨c9, hM⟩
      · refine am_ev.kt 8 187 65 [.ref 1000, .int x1, .int x2, .int x3, .long l4, am_ju, .int x6, am_ju, am_ju, am_ju] [] (zl sn sx, X, xr E G Q N A U Y K H tl, q) c9 (fun _ _ => rfl) ?_
        exact sj_M_list_187 hx hg hM
      · refine am_ev.ke 8 187 65 [.ref 1000, .int x1, .int x2, .int x3, .long l4, am_ju, .int x6, am_ju, am_ju, am_ju] [] (zl sn sx, X, xr E G Q N A U Y K H tl, q) c9 (fun _ _ => rfl) ?_
        obtain ⟨rr, hc, hM⟩ := am_bind hM
        obtain ⟨r3, rfl⟩ : ∃ z, z = rr := ⟨_, rfl⟩
        refine am_ev.kg 4 (pc' := 72) (lv' := [.ref 1000, .int x1, .int x2, .int x3, .long l4, am_ju, .int x6, am_ju, am_ju, am_ju]) (st' := [.int (po_side Q), .int x6, .ref 1000]) (h' := (zl sn sx, X, xr E G Q N A U Y K H tl, q)) (fun _ _ => rfl) ?_
        refine am_ev.call rfl rfl rfl ((s_M_isOf hc).mono (by decide)) ?_
        show am_ev _ k_M_list (75, [.ref 1000, .int x1, .int x2, .int x3, .long l4, am_ju, .int x6, am_ju, am_ju, am_ju], [.int r3], (zl sn sx, X, xr E G Q N A U Y K H tl, q)) oo
        rcases am_if hM with ⟨c10, hM⟩ | ⟨c10, hM⟩
        · refine am_ev.kt 1 187 78 [.ref 1000, .int x1, .int x2, .int x3, .long l4, am_ju, .int x6, am_ju, am_ju, am_ju] [] (zl sn sx, X, xr E G Q N A U Y K H tl, q) c10 (fun _ _ => rfl) ?_
          exact sj_M_list_187 hx hg hM
        · refine am_ev.ke 1 187 78 [.ref 1000, .int x1, .int x2, .int x3, .long l4, am_ju, .int x6, am_ju, am_ju, am_ju] [] (zl sn sx, X, xr E G Q N A U Y K H tl, q) c10 (fun _ _ => rfl) ?_
          obtain ⟨c11, hM⟩ := am_ifn hM
          refine am_ev.kc 4 84 [.ref 1000, .int x1, .int x2, .int x3, .long l4, am_ju, .int x6, am_ju, am_ju, am_ju] [.int ((po_men Q) (x3).toNatClampNeg)] (zl sn sx, X, xr E G Q N A U Y K H tl, q) c11 (fun _ _ => rfl) ?_
          obtain ⟨rr, hc, hM⟩ := am_bind hM
          obtain ⟨r4, rfl⟩ : ∃ z, z = rr := ⟨_, rfl⟩
          refine am_ev.call rfl rfl rfl ((s_M_kind hc).mono (by decide)) ?_
          show am_ev _ k_M_list (87, [.ref 1000, .int x1, .int x2, .int x3, .long l4, am_ju, .int x6, am_ju, am_ju, am_ju], [.int r4], (zl sn sx, X, xr E G Q N A U Y K H tl, q)) oo
          rcases am_if hM with ⟨c12, hM⟩ | ⟨c12, hM⟩
          · refine am_ev.kt 2 109 91 [.ref 1000, .int x1, .int x2, .int x3, .long l4, am_ju, .int x6, am_ju, am_ju, am_ju] [] (zl sn sx, X, xr E G Q N A U Y K H tl, q) c12 (fun _ _ => rfl) ?_
            exact sj_M_list_109 hx hg hM
          · refine am_ev.ke 2 109 91 [.ref 1000, .int x1, .int x2, .int x3, .long l4, am_ju, .int x6, am_ju, am_ju, am_ju] [] (zl sn sx, X, xr E G Q N A U Y K H tl, q) c12 (fun _ _ => rfl) ?_
            rcases am_if hM with ⟨c13, hM⟩ | ⟨c13, hM⟩
            · refine am_ev.kt 3 105 98 [.ref 1000, .int x1, .int x2, .int x3, .long l4, am_ju, .int x6, am_ju, am_ju, am_ju] [] (zl sn sx, X, xr E G Q N A U Y K H tl, q) c13 (fun _ _ => rfl) ?_
              exact sj_M_list_105 hx hg hM
            · refine am_ev.ke 3 105 98 [.ref 1000, .int x1, .int x2, .int x3, .long l4, am_ju, .int x6, am_ju, am_ju, am_ju] [] (zl sn sx, X, xr E G Q N A U Y K H tl, q) c13 (fun _ _ => rfl) ?_
              rcases am_if hM with ⟨c14, hM⟩ | ⟨c14, hM⟩
              · refine am_ev.kt 3 109 105 [.ref 1000, .int x1, .int x2, .int x3, .long l4, am_ju, .int x6, am_ju, am_ju, am_ju] [] (zl sn sx, X, xr E G Q N A U Y K H tl, q) c14 (fun _ _ => rfl) ?_
                exact sj_M_list_109 hx hg hM
              · refine am_ev.ke 3 109 105 [.ref 1000, .int x1, .int x2, .int x3, .long l4, am_ju, .int x6, am_ju, am_ju, am_ju] [] (zl sn sx, X, xr E G Q N A U Y K H tl, q) c14 (fun _ _ => rfl) ?_
                exact sj_M_list_105 hx hg hM
theorem sl_M_list_36 {fu : Nat} {sn : Nat} {sx : Nat → Int32} {X : List am_C} {q : Nat × Nat} {tl : List am_C} {E : ThT} {G : RtT} {N : NuT} {A : PaT} {K : KeT} {H : HlT} {x1 : Int32} {x3 : Int32} {l4 : Int64} {oo : am_O} {e : (Int32 × PoT × UnT × LiT)} (hx : x_M_list_36 sn sx X q tl E G N A K H x1 x3 l4 oo e) : ∀ (n : Nat) (x2 : Int32) (x6 : Int32) (Q : PoT) (U : UnT) (Y : LiT), l_M_list_36 fu x1 x3 l4 n x2 x6 Q U Y = some e → am_ev 8 k_M_list (36, [.ref 1000, .int x1, .int x2, .int x3, .long l4, am_ju, .int x6, am_ju, am_ju, am_ju], [], (zl sn sx, X, xr E G Q N A U Y K H tl, q)) oo
  | 0, _, _, _, _, _, hM => by have h : (none : Option ((Int32 × PoT × UnT × LiT))) = some e := hM; cases h
  | n + 1, _, _, _, _, _, hM => sb_M_list_36 hx (fun _ _ _ _ _ hM => sl_M_list_36 hx n _ _ _ _ _ hM) hM
theorem sj_M_list_31 {fu : Nat} {sn : Nat} {sx : Nat → Int32} {X : List am_C} {q : Nat × Nat} {tl : List am_C} {E : ThT} {G : RtT} {Q : PoT} {N : NuT} {A : PaT} {U : UnT} {Y : LiT} {K : KeT} {H : HlT} {x1 : Int32} {x2 : Int32} {x3 : Int32} {t0 : Int64} {oo : am_O} {e : (Int32 × PoT × UnT × LiT)} {gg : Int32 → Int32 → PoT → UnT → LiT → Option ((Int32 × PoT × UnT × LiT))} (hx : x_M_list_4 sn sx X q tl E G N A K H x1 oo e) (hg : ∀ (x2 : Int32) (x3 : Int32) (Q : PoT) (U : UnT) (Y : LiT), gg x2 x3 Q U Y = some e → am_ev 8 k_M_list (4, [.ref 1000, .int x1, .int x2, .int x3, am_ju, am_ju, am_ju, am_ju, am_ju, am_ju], [], (zl sn sx, X, xr E G Q N A U Y K H tl, q)) oo) (hM : j_M_list_31 fu gg Q U Y x1 x2 x3 t0 = some e) : am_ev 8 k_M_list (31, [.ref 1000, .int x1, .int x2, .int x3, am_ju, am_ju, am_ju, am_ju, am_ju, am_ju], [.long t0], (zl sn sx, X, xr E G Q N A U Y K H tl, q)) oo := by
  unfold j_M_list_31 at hM
  refine am_ev.kg 3 (pc' := 36) (lv' := [.ref 1000, .int x1, .int x2, .int x3, .long t0, am_ju, .int (0 : Int32), am_ju, am_ju, am_ju]) (st' := []) (h' := (zl sn sx, X, xr E G Q N A U Y K H tl, q)) (fun _ _ => rfl) ?_
  obtain ⟨z, hz, hM⟩ := am_bind hM
  obtain ⟨x2_2, qz_2, uz_2, yz_2⟩ := z
  refine sl_M_list_36 ?_ _ _ _ _ _ _ hz
  show am_ev 8 k_M_list (193, [.ref 1000, .int x1, .int x2_2, .int x3, am_ju, am_ju, am_ju, am_ju, am_ju, am_ju], [], (zl sn sx, X, xr E G qz_2 N A uz_2 yz_2 K H tl, q)) oo
  exact sj_M_list_193 hx hg hM
theorem sb_M_list_4 {fu : Nat} {sn : Nat} {sx : Nat → Int32} {X : List am_C} {q : Nat × Nat} {tl : List am_C} {E : ThT} {G : RtT} {N : NuT} {A : PaT} {K : KeT} {H : HlT} {x1 : Int32} {oo : am_O} {e : (Int32 × PoT × UnT × LiT)} {gg : Int32 → Int32 → PoT → UnT → LiT → Option ((Int32 × PoT × UnT × LiT))} (hx : x_M_list_4 sn sx X q tl E G N A K H x1 oo e) (hg : ∀ (x2 : Int32) (x3 : Int32) (Q : PoT) (U : UnT) (Y : LiT), gg x2 x3 Q U Y = some e → am_ev 8 k_M_list (4, [.ref 1000, .int x1, .int x2, .int x3, am_ju, am_ju, am_ju, am_ju, am_ju, am_ju], [], (zl sn sx, X, xr E G Q N A U Y K H tl, q)) oo) {x2 : Int32} {x3 : Int32} {Q : PoT} {U : UnT} {Y : LiT} (hM : b_M_list_4 fu x1 gg x2 x3 Q U Y = some e) : am_ev 8 k_M_list (4, [.ref 1000, .int x1, .int x2, .int x3, am_ju, am_ju, am_ju, am_ju, am_ju, am_ju], [], (zl sn sx, X, xr E G Q N A U Y K H tl, q)) oo := by
  unfold b_M_list_4 at hM
  rcases am_if hM with ⟨c15, hM⟩ | ⟨c15, hM⟩
  · refine am_ev.kt 3 199 10 [.ref 1000, .int x1, .int x2, .int x3, am_ju, am_ju, am_ju, am_ju, am_ju, am_ju] [] (zl sn sx, X, xr E G Q N A U Y K H tl, q) c15 (fun _ _ => rfl) ?_
    refine am_ev.wk (lv' := [.ref 1000, .int x1, .int x2, am_ju, am_ju, am_ju, am_ju, am_ju, am_ju, am_ju]) (am_lc (Or.inr rfl) (am_lc (Or.inr rfl) (am_lc (Or.inr rfl) (am_lc (Or.inl rfl) (am_lc (Or.inr rfl) (am_lc (Or.inr rfl) (am_lc (Or.inr rfl) (am_lc (Or.inr rfl) (am_lc (Or.inr rfl) (am_lc (Or.inr rfl) am_ln)))))))))) ?_
    cases hM
    exact hx
  · refine am_ev.ke 3 199 10 [.ref 1000, .int x1, .int x2, .int x3, am_ju, am_ju, am_ju, am_ju, am_ju, am_ju] [] (zl sn sx, X, xr E G Q N A U Y K H tl, q) c15 (fun _ _ => rfl) ?_
    obtain ⟨rr, hc, hM⟩ := am_bind hM
    obtain ⟨r1, rfl⟩ : ∃ z, z = rr := ⟨_, rfl⟩
    refine am_ev.kg 4 (pc' := 16) (lv' := [.ref 1000, .int x1, .int x2, .int x3, am_ju, am_ju, am_ju, am_ju, am_ju, am_ju]) (st' := [.int (po_side Q), .int x3, .ref 1000]) (h' := (zl sn sx, X, xr E G Q N A U Y K H tl, q)) (fun _ _ => rfl) ?_
    refine am_ev.call rfl rfl rfl ((s_M_isOf hc).mono (by decide)) ?_
    show am_ev _ k_M_list (19, [.ref 1000, .int x1, .int x2, .int x3, am_ju, am_ju, am_ju, am_ju, am_ju, am_ju], [.int r1], (zl sn sx, X, xr E G Q N A U Y K H tl, q)) oo
    rcases am_if hM with ⟨c16, hM⟩ | ⟨c16, hM⟩
    · refine am_ev.kt 1 30 22 [.ref 1000, .int x1, .int x2, .int x3, am_ju, am_ju, am_ju, am_ju, am_ju, am_ju] [] (zl sn sx, X, xr E G Q N A U Y K H tl, q) c16 (fun _ _ => rfl) ?_
      refine am_ev.kg 1 (pc' := 31) (lv' := [.ref 1000, .int x1, .int x2, .int x3, am_ju, am_ju, am_ju, am_ju, am_ju, am_ju]) (st' := [.long (0 : Int64)]) (h' := (zl sn sx, X, xr E G Q N A U Y K H tl, q)) (fun _ _ => rfl) ?_
      exact sj_M_list_31 hx hg hM
    · refine am_ev.ke 1 30 22 [.ref 1000, .int x1, .int x2, .int x3, am_ju, am_ju, am_ju, am_ju, am_ju, am_ju] [] (zl sn sx, X, xr E G Q N A U Y K H tl, q) c16 (fun _ _ => rfl) ?_
      obtain ⟨rr, hc, hM⟩ := am_bind hM
      obtain ⟨r2, rfl⟩ : ∃ z, z = rr := ⟨_, rfl⟩
      refine am_ev.kg 2 (pc' := 24) (lv' := [.ref 1000, .int x1, .int x2, .int x3, am_ju, am_ju, am_ju, am_ju, am_ju, am_ju]) (st' := [.int x3, .ref 1000]) (h' := (zl sn sx, X, xr E G Q N A U Y K H tl, q)) (fun _ _ => rfl) ?_
      refine am_ev.call rfl rfl rfl ((s_M_goals hc).mono (by decide)) ?_
      show am_ev _ k_M_list (27, [.ref 1000, .int x1, .int x2, .int x3, am_ju, am_ju, am_ju, am_ju, am_ju, am_ju], [.long r2], (zl sn sx, X, xr E G Q N A U Y K H tl, q)) oo
      refine am_ev.kg 1 (pc' := 31) (lv' := [.ref 1000, .int x1, .int x2, .int x3, am_ju, am_ju, am_ju, am_ju, am_ju, am_ju]) (st' := [.long r2]) (h' := (zl sn sx, X, xr E G Q N A U Y K H tl, q)) (fun _ _ => rfl) ?_
      exact sj_M_list_31 hx hg hM
theorem sl_M_list_4 {fu : Nat} {sn : Nat} {sx : Nat → Int32} {X : List am_C} {q : Nat × Nat} {tl : List am_C} {E : ThT} {G : RtT} {N : NuT} {A : PaT} {K : KeT} {H : HlT} {x1 : Int32} {oo : am_O} {e : (Int32 × PoT × UnT × LiT)} (hx : x_M_list_4 sn sx X q tl E G N A K H x1 oo e) : ∀ (n : Nat) (x2 : Int32) (x3 : Int32) (Q : PoT) (U : UnT) (Y : LiT), l_M_list_4 fu x1 n x2 x3 Q U Y = some e → am_ev 8 k_M_list (4, [.ref 1000, .int x1, .int x2, .int x3, am_ju, am_ju, am_ju, am_ju, am_ju, am_ju], [], (zl sn sx, X, xr E G Q N A U Y K H tl, q)) oo
  | 0, _, _, _, _, _, hM => by have h : (none : Option ((Int32 × PoT × UnT × LiT))) = some e := hM; cases h
  | n + 1, _, _, _, _, _, hM => sb_M_list_4 hx (fun _ _ _ _ _ hM => sl_M_list_4 hx n _ _ _ _ _ hM) hM
theorem se_M_list {fu : Nat} {sn : Nat} {sx : Nat → Int32} {X : List am_C} {q : Nat × Nat} {tl : List am_C} {E : ThT} {G : RtT} {Q : PoT} {N : NuT} {A : PaT} {U : UnT} {Y : LiT} {K : KeT} {H : HlT} {x1 : Int32} {oo : am_O} {e : Int32 × PoT × UnT × LiT} (hx : y_M_list sn sx X q tl E G N A K H oo e) (hM : f_M_list fu x1 Q U Y = some e) : am_ev 8 k_M_list (0, [.ref 1000, .int x1, am_ju, am_ju, am_ju, am_ju, am_ju, am_ju, am_ju, am_ju], [], (zl sn sx, X, xr E G Q N A U Y K H tl, q)) oo := by
  unfold f_M_list at hM
  refine am_ev.kg 4 (pc' := 4) (lv' := [.ref 1000, .int x1, .int (0 : Int32), .int (0 : Int32), am_ju, am_ju, am_ju, am_ju, am_ju, am_ju]) (st' := []) (h' := (zl sn sx, X, xr E G Q N A U Y K H tl, q)) (fun _ _ => rfl) ?_
  obtain ⟨z, hz, hM⟩ := am_bind hM
  obtain ⟨x2_3, qz_3, uz_3, yz_3⟩ := z
  refine sl_M_list_4 ?_ _ _ _ _ _ _ hz
  show am_ev 8 k_M_list (199, [.ref 1000, .int x1, .int x2_3, am_ju, am_ju, am_ju, am_ju, am_ju, am_ju, am_ju], [], (zl sn sx, X, xr E G qz_3 N A uz_3 yz_3 K H tl, q)) oo
  exact sj_M_list_199 hx hM
theorem s_M_list {fu : Nat} {sn : Nat} {sx : Nat → Int32} {X : List am_C} {q : Nat × Nat} {tl : List am_C} {E : ThT} {G : RtT} {Q : PoT} {N : NuT} {A : PaT} {U : UnT} {Y : LiT} {K : KeT} {H : HlT} {x1 : Int32} {ov : Int32} {oQ : PoT} {oU : UnT} {oY : LiT} (hM : f_M_list fu x1 Q U Y = some (ov, oQ, oU, oY)) : am_cv 9 k_M_list [.ref 1000, .int x1] (zl sn sx, X, xr E G Q N A U Y K H tl, q) (.inl (some (.int ov)), (zl sn sx, X, xr E G oQ N A oU oY K H tl, q)) := am_cv.of rfl (se_M_list (e := (ov, oQ, oU, oY)) (show y_M_list sn sx X q tl E G N A K H _ (ov, oQ, oU, oY) from rfl) hM)
def y_M_moves (sn : Nat) (sx : Nat → Int32) (X : List am_C) (q : Nat × Nat) (tl : List am_C) (G : RtT) (N : NuT) (A : PaT) (K : KeT) (H : HlT) (oo : am_O) : Int32 × ThT × PoT × UnT × LiT → Prop
  | (ov, oE, oQ, oU, oY) => oo = (.inl (some (.int ov)), (zl sn sx, X, xr oE G oQ N A oU oY K H tl, q))
theorem se_M_moves {fu : Nat} {sn : Nat} {sx : Nat → Int32} {X : List am_C} {q : Nat × Nat} {tl : List am_C} {E : ThT} {G : RtT} {Q : PoT} {N : NuT} {A : PaT} {U : UnT} {Y : LiT} {K : KeT} {H : HlT} {oo : am_O} {e : Int32 × ThT × PoT × UnT × LiT} (hx : y_M_moves sn sx X q tl G N A K H oo e) (hM : f_M_moves fu E Q U Y = some e) : am_ev 9 k_M_moves (0, [.ref 1000], [], (zl sn sx, X, xr E G Q N A U Y K H tl, q)) oo := by
  unfold f_M_moves at hM
  obtain ⟨rr, hc, hM⟩ := am_bind hM
  obtain ⟨r1, qg2, ug3, yg4⟩ := rr
  refine am_ev.kg 5 (pc' := 7) (lv' := [.ref 1000]) (st' := [.int (0 : Int32), .ref 1000]) (h' := (zl sn sx, X, xr (0 : Int32) G Q N A U Y K H tl, q)) (fun _ _ => rfl) ?_
  refine am_ev.call rfl rfl rfl ((s_M_list hc).mono (by decide)) ?_
  show am_ev _ k_M_moves (10, [.ref 1000], [.int r1], (zl sn sx, X, xr (0 : Int32) G qg2 N A ug3 yg4 K H tl, q)) oo
  cases hM
  cases hx
  exact am_ev.kf 1 (fun _ _ => rfl)
theorem s_M_moves {fu : Nat} {sn : Nat} {sx : Nat → Int32} {X : List am_C} {q : Nat × Nat} {tl : List am_C} {E : ThT} {G : RtT} {Q : PoT} {N : NuT} {A : PaT} {U : UnT} {Y : LiT} {K : KeT} {H : HlT} {ov : Int32} {oE : ThT} {oQ : PoT} {oU : UnT} {oY : LiT} (hM : f_M_moves fu E Q U Y = some (ov, oE, oQ, oU, oY)) : am_cv 10 k_M_moves [.ref 1000] (zl sn sx, X, xr E G Q N A U Y K H tl, q) (.inl (some (.int ov)), (zl sn sx, X, xr oE G oQ N A oU oY K H tl, q)) := am_cv.of rfl (se_M_moves (e := (ov, oE, oQ, oU, oY)) (show y_M_moves sn sx X q tl G N A K H _ (ov, oE, oQ, oU, oY) from rfl) hM)
