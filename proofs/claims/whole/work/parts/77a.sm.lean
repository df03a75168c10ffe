def y_M_thrown (sn : Nat) (sx : Nat → Int32) (X : List am_C) (q : Nat × Nat) (tl : List am_C) (E : ThT) (G : RtT) (Q : PoT) (N : NuT) (A : PaT) (U : UnT) (Y : LiT) (K : KeT) (H : HlT) (oo : am_O) : Int32 → Prop
  | ov => oo = (.inl (some (.int ov)), (zl sn sx, X, xr E G Q N A U Y K H tl, q))
theorem se_M_thrown {sn : Nat} {sx : Nat → Int32} {X : List am_C} {q : Nat × Nat} {tl : List am_C} {E : ThT} {G : RtT} {Q : PoT} {N : NuT} {A : PaT} {U : UnT} {Y : LiT} {K : KeT} {H : HlT} {oo : am_O} {e : Int32} (hx : y_M_thrown sn sx X q tl E G Q N A U Y K H oo e) (hM : f_M_thrown E = some e) : am_ev 1 k_M_thrown (0, [.ref 1000], [], (zl sn sx, X, xr E G Q N A U Y K H tl, q)) oo := by
  unfold f_M_thrown at hM
  cases hM
  cases hx
  exact am_ev.kf 3 (fun _ _ => rfl)
theorem s_M_thrown {sn : Nat} {sx : Nat → Int32} {X : List am_C} {q : Nat × Nat} {tl : List am_C} {E : ThT} {G : RtT} {Q : PoT} {N : NuT} {A : PaT} {U : UnT} {Y : LiT} {K : KeT} {H : HlT} {ov : Int32} (hM : f_M_thrown E = some ov) : am_cv 2 k_M_thrown [.ref 1000] (zl sn sx, X, xr E G Q N A U Y K H tl, q) (.inl (some (.int ov)), (zl sn sx, X, xr E G Q N A U Y K H tl, q)) := am_cv.of rfl (se_M_thrown (e := ov) (show y_M_thrown sn sx X q tl E G Q N A U Y K H _ ov from rfl) hM)
def y_M_castleRook (sn : Nat) (sx : Nat → Int32) (X : List am_C) (q : Nat × Nat) (tl : List am_C) (E : ThT) (G : RtT) (N : NuT) (A : PaT) (U : UnT) (Y : LiT) (K : KeT) (H : HlT) (oo : am_O) : PoT → Prop
  | oQ => oo = (.inl none, (zl sn sx, X, xr E G oQ N A U Y K H tl, q))
theorem sj_M_castleRook_53 {sn : Nat} {sx : Nat → Int32} {X : List am_C} {q : Nat × Nat} {tl : List am_C} {E : ThT} {G : RtT} {Q : PoT} {N : NuT} {A : PaT} {U : UnT} {Y : LiT} {K : KeT} {H : HlT} {x3 : Int32} {x4 : Int32} {x5 : Int32} {s1 : Int32} {s3 : Int32} {oo : am_O} {e : PoT} (hx : y_M_castleRook sn sx X q tl E G N A U Y K H oo e) (hM : j_M_castleRook_53 Q x3 x4 x5 s1 s3 = some e) : am_ev 1 k_M_castleRook (53, [.ref 1000, am_ju, am_ju, .int x3, .int x4, .int x5], [.int s3, .ref 1002, .int s1, .ref 1002], (zl sn sx, X, xr E G Q N A U Y K H tl, q)) oo := by
  unfold j_M_castleRook_53 at hM
  obtain ⟨c1, hM⟩ := am_ifn hM
  refine am_ev.kc 1 54 [.ref 1000, am_ju, am_ju, .int x3, .int x4, .int x5] [.int ((po_men Q) (s3).toNatClampNeg), .int s1, .ref 1002] (zl sn sx, X, xr E G Q N A U Y K H tl, q) c1 (fun _ _ => rfl) ?_
  obtain ⟨c2, hM⟩ := am_ifn hM
  refine am_ev.kc 1 55 [.ref 1000, am_ju, am_ju, .int x3, .int x4, .int x5] [] (zl sn sx, X, xr E G ((upd (po_men Q) (s1).toNatClampNeg ((po_men Q) (s3).toNatClampNeg)), (po_side Q), (po_rights Q), (po_passed Q), (po_clock Q)) N A U Y K H tl, q) c2 (fun _ _ => rfl) ?_
  rcases am_if hM with ⟨c3, hM⟩ | ⟨c3, hM⟩
  · refine am_ev.kt 4 68 63 [.ref 1000, am_ju, am_ju, .int x3, .int x4, .int x5] [.ref 1002] (zl sn sx, X, xr E G ((upd (po_men Q) (s1).toNatClampNeg ((po_men Q) (s3).toNatClampNeg)), (po_side Q), (po_rights Q), (po_passed Q), (po_clock Q)) N A U Y K H tl, q) c3 (fun _ _ => rfl) ?_
    obtain ⟨c4, hM⟩ := am_ifn hM
    refine am_ev.kc 3 72 [.ref 1000, am_ju, am_ju, .int x3, .int x4, .int x5] [] (zl sn sx, X, xr E G ((upd (upd (po_men Q) (s1).toNatClampNeg ((po_men Q) (s3).toNatClampNeg)) (x4).toNatClampNeg (0 : Int32)), (po_side Q), (po_rights Q), (po_passed Q), (po_clock Q)) N A U Y K H tl, q) c4 (fun _ _ => rfl) ?_
    cases hM
    cases hx
    exact am_ev.kf 1 (fun _ _ => rfl)
  · refine am_ev.ke 4 68 63 [.ref 1000, am_ju, am_ju, .int x3, .int x4, .int x5] [.ref 1002] (zl sn sx, X, xr E G ((upd (po_men Q) (s1).toNatClampNeg ((po_men Q) (s3).toNatClampNeg)), (po_side Q), (po_rights Q), (po_passed Q), (po_clock Q)) N A U Y K H tl, q) c3 (fun _ _ => rfl) ?_
    obtain ⟨c5, hM⟩ := am_ifn hM
    refine am_ev.kc 4 72 [.ref 1000, am_ju, am_ju, .int x3, .int x4, .int x5] [] (zl sn sx, X, xr E G ((upd (upd (po_men Q) (s1).toNatClampNeg ((po_men Q) (s3).toNatClampNeg)) (x5).toNatClampNeg (0 : Int32)), (po_side Q), (po_rights Q), (po_passed Q), (po_clock Q)) N A U Y K H tl, q) c5 (fun _ _ => rfl) ?_
    cases hM
    cases hx
    exact am_ev.kf 1 (fun _ _ => rfl)
theorem sj_M_castleRook_38 {sn : Nat} {sx : Nat → Int32} {X : List am_C} {q : Nat × Nat} {tl : List am_C} {E : ThT} {G : RtT} {Q : PoT} {N : NuT} {A : PaT} {U : UnT} {Y : LiT} {K : KeT} {H : HlT} {x3 : Int32} {x4 : Int32} {x5 : Int32} {s1 : Int32} {oo : am_O} {e : PoT} (hx : y_M_castleRook sn sx X q tl E G N A U Y K H oo e) (hM : j_M_castleRook_38 Q x3 x4 x5 s1 = some e) : am_ev 1 k_M_castleRook (38, [.ref 1000, am_ju, am_ju, .int x3, .int x4, .int x5], [.int s1, .ref 1002], (zl sn sx, X, xr E G Q N A U Y K H tl, q)) oo := by
  unfold j_M_castleRook_38 at hM
  rcases am_if hM with ⟨c6, hM⟩ | ⟨c6, hM⟩
  · refine am_ev.kt 4 51 46 [.ref 1000, am_ju, am_ju, .int x3, .int x4, .int x5] [.ref 1002, .int s1, .ref 1002] (zl sn sx, X, xr E G Q N A U Y K H tl, q) c6 (fun _ _ => rfl) ?_
    refine am_ev.kg 1 (pc' := 53) (lv' := [.ref 1000, am_ju, am_ju, .int x3, .int x4, .int x5]) (st' := [.int x4, .ref 1002, .int s1, .ref 1002]) (h' := (zl sn sx, X, xr E G Q N A U Y K H tl, q)) (fun _ _ => rfl) ?_
    exact sj_M_castleRook_53 hx hM
  · refine am_ev.ke 4 51 46 [.ref 1000, am_ju, am_ju, .int x3, .int x4, .int x5] [.ref 1002, .int s1, .ref 1002] (zl sn sx, X, xr E G Q N A U Y K H tl, q) c6 (fun _ _ => rfl) ?_
    refine am_ev.kg 2 (pc' := 53) (lv' := [.ref 1000, am_ju, am_ju, .int x3, .int x4, .int x5]) (st' := [.int x5, .ref 1002, .int s1, .ref 1002]) (h' := (zl sn sx, X, xr E G Q N A U Y K H tl, q)) (fun _ _ => rfl) ?_
    exact sj_M_castleRook_53 hx hM
theorem sj_M_castleRook_14 {sn : Nat} {sx : Nat → Int32} {X : List am_C} {q : Nat × Nat} {tl : List am_C} {E : ThT} {G : RtT} {Q : PoT} {N : NuT} {A : PaT} {U : UnT} {Y : LiT} {K : KeT} {H : HlT} {x1 : Int32} {x2 : Int32} {x3 : Int32} {s0 : Int32} {oo : am_O} {e : PoT} (hx : y_M_castleRook sn sx X q tl E G N A U Y K H oo e) (hM : j_M_castleRook_14 Q x1 x2 x3 s0 = some e) : am_ev 1 k_M_castleRook (14, [.ref 1000, .int x1, .int x2, .int x3, am_ju, am_ju], [.int s0], (zl sn sx, X, xr E G Q N A U Y K H tl, q)) oo := by
  unfold j_M_castleRook_14 at hM
  rcases am_if hM with ⟨c7, hM⟩ | ⟨c7, hM⟩
  · refine am_ev.kt 11 36 31 [.ref 1000, .int x1, .int x2, .int x3, .int s0, .int ((x1 + x2) / (2 : Int32))] [.ref 1002] (zl sn sx, X, xr E G Q N A U Y K H tl, q) c7 (fun _ _ => rfl) ?_
    refine am_ev.kg 1 (pc' := 38) (lv' := [.ref 1000, .int x1, .int x2, .int x3, .int s0, .int ((x1 + x2) / (2 : Int32))]) (st' := [.int ((x1 + x2) / (2 : Int32)), .ref 1002]) (h' := (zl sn sx, X, xr E G Q N A U Y K H tl, q)) (fun _ _ => rfl) ?_
    refine am_ev.wk (lv' := [.ref 1000, am_ju, am_ju, .int x3, .int s0, .int ((x1 + x2) / (2 : Int32))]) (am_lc (Or.inr rfl) (am_lc (Or.inl rfl) (am_lc (Or.inl rfl) (am_lc (Or.inr rfl) (am_lc (Or.inr rfl) (am_lc (Or.inr rfl) am_ln)))))) ?_
    exact sj_M_castleRook_38 hx hM
  · refine am_ev.ke 11 36 31 [.ref 1000, .int x1, .int x2, .int x3, .int s0, .int ((x1 + x2) / (2 : Int32))] [.ref 1002] (zl sn sx, X, xr E G Q N A U Y K H tl, q) c7 (fun _ _ => rfl) ?_
    refine am_ev.kg 2 (pc' := 38) (lv' := [.ref 1000, .int x1, .int x2, .int x3, .int s0, .int ((x1 + x2) / (2 : Int32))]) (st' := [.int s0, .ref 1002]) (h' := (zl sn sx, X, xr E G Q N A U Y K H tl, q)) (fun _ _ => rfl) ?_
    refine am_ev.wk (lv' := [.ref 1000, am_ju, am_ju, .int x3, .int s0, .int ((x1 + x2) / (2 : Int32))]) (am_lc (Or.inr rfl) (am_lc (Or.inl rfl) (am_lc (Or.inl rfl) (am_lc (Or.inr rfl) (am_lc (Or.inr rfl) (am_lc (Or.inr rfl) am_ln)))))) ?_
    exact sj_M_castleRook_38 hx hM
theorem se_M_castleRook {sn : Nat} {sx : Nat → Int32} {X : List am_C} {q : Nat × Nat} {tl : List am_C} {E : ThT} {G : RtT} {Q : PoT} {N : NuT} {A : PaT} {U : UnT} {Y : LiT} {K : KeT} {H : HlT} {x1 : Int32} {x2 : Int32} {x3 : Int32} {oo : am_O} {e : PoT} (hx : y_M_castleRook sn sx X q tl E G N A U Y K H oo e) (hM : f_M_castleRook x1 x2 x3 Q = some e) : am_ev 1 k_M_castleRook (0, [.ref 1000, .int x1, .int x2, .int x3, am_ju, am_ju], [], (zl sn sx, X, xr E G Q N A U Y K H tl, q)) oo := by
  unfold f_M_castleRook at hM
  rcases am_if hM with ⟨c8, hM⟩ | ⟨c8, hM⟩
  · refine am_ev.kt 3 11 5 [.ref 1000, .int x1, .int x2, .int x3, am_ju, am_ju] [] (zl sn sx, X, xr E G Q N A U Y K H tl, q) c8 (fun _ _ => rfl) ?_
    refine am_ev.kg 3 (pc' := 14) (lv' := [.ref 1000, .int x1, .int x2, .int x3, am_ju, am_ju]) (st' := [.int (x1 - (4 : Int32))]) (h' := (zl sn sx, X, xr E G Q N A U Y K H tl, q)) (fun _ _ => rfl) ?_
    exact sj_M_castleRook_14 hx hM
  · refine am_ev.ke 3 11 5 [.ref 1000, .int x1, .int x2, .int x3, am_ju, am_ju] [] (zl sn sx, X, xr E G Q N A U Y K H tl, q) c8 (fun _ _ => rfl) ?_
    refine am_ev.kg 4 (pc' := 14) (lv' := [.ref 1000, .int x1, .int x2, .int x3, am_ju, am_ju]) (st' := [.int (x1 + (3 : Int32))]) (h' := (zl sn sx, X, xr E G Q N A U Y K H tl, q)) (fun _ _ => rfl) ?_
    exact sj_M_castleRook_14 hx hM
theorem s_M_castleRook {sn : Nat} {sx : Nat → Int32} {X : List am_C} {q : Nat × Nat} {tl : List am_C} {E : ThT} {G : RtT} {Q : PoT} {N : NuT} {A : PaT} {U : UnT} {Y : LiT} {K : KeT} {H : HlT} {x1 : Int32} {x2 : Int32} {x3 : Int32} {oQ : PoT} (hM : f_M_castleRook x1 x2 x3 Q = some oQ) : am_cv 2 k_M_castleRook [.ref 1000, .int x1, .int x2, .int x3] (zl sn sx, X, xr E G Q N A U Y K H tl, q) (.inl none, (zl sn sx, X, xr E G oQ N A U Y K H tl, q)) := am_cv.of rfl (se_M_castleRook (e := oQ) (show y_M_castleRook sn sx X q tl E G N A U Y K H _ oQ from rfl) hM)
def y_M_kind (sn : Nat) (sx : Nat → Int32) (X : List am_C) (q : Nat × Nat) (tl : List am_C) (E : ThT) (G : RtT) (Q : PoT) (N : NuT) (A : PaT) (U : UnT) (Y : LiT) (K : KeT) (H : HlT) (oo : am_O) : Int32 → Prop
  | ov => oo = (.inl (some (.int ov)), (zl sn sx, X, xr E G Q N A U Y K H tl, q))
theorem se_M_kind {sn : Nat} {sx : Nat → Int32} {X : List am_C} {q : Nat × Nat} {tl : List am_C} {E : ThT} {G : RtT} {Q : PoT} {N : NuT} {A : PaT} {U : UnT} {Y : LiT} {K : KeT} {H : HlT} {x0 : Int32} {oo : am_O} {e : Int32} (hx : y_M_kind sn sx X q tl E G Q N A U Y K H oo e) (hM : f_M_kind x0 = some e) : am_ev 1 k_M_kind (0, [.int x0], [], (zl sn sx, X, xr E G Q N A U Y K H tl, q)) oo := by
  unfold f_M_kind at hM
  cases hM
  cases hx
  exact am_ev.kf 4 (fun _ _ => rfl)
theorem s_M_kind {sn : Nat} {sx : Nat → Int32} {X : List am_C} {q : Nat × Nat} {tl : List am_C} {E : ThT} {G : RtT} {Q : PoT} {N : NuT} {A : PaT} {U : UnT} {Y : LiT} {K : KeT} {H : HlT} {x0 : Int32} {ov : Int32} (hM : f_M_kind x0 = some ov) : am_cv 2 k_M_kind [.int x0] (zl sn sx, X, xr E G Q N A U Y K H tl, q) (.inl (some (.int ov)), (zl sn sx, X, xr E G Q N A U Y K H tl, q)) := am_cv.of rfl (se_M_kind (e := ov) (show y_M_kind sn sx X q tl E G Q N A U Y K H _ ov from rfl) hM)
def y_M_takeBack (sn : Nat) (sx : Nat → Int32) (X : List am_C) (q : Nat × Nat) (tl : List am_C) (E : ThT) (G : RtT) (N : NuT) (A : PaT) (U : UnT) (Y : LiT) (K : KeT) (H : HlT) (oo : am_O) : PoT → Prop
  | oQ => oo = (.inl none, (zl sn sx, X, xr E G oQ N A U Y K H tl, q))
theorem sj_M_takeBack_62 {sn : Nat} {sx : Nat → Int32} {X : List am_C} {q : Nat × Nat} {tl : List am_C} {E : ThT} {G : RtT} {Q : PoT} {N : NuT} {A : PaT} {U : UnT} {Y : LiT} {K : KeT} {H : HlT} {x2 : Int32} {x3 : Int32} {x4 : Int32} {oo : am_O} {e : PoT} (hx : y_M_takeBack sn sx X q tl E G N A U Y K H oo e) (hM : j_M_takeBack_62 Q U x2 x3 x4 = some e) : am_ev 2 k_M_takeBack (62, [.ref 1000, am_ju, .int x2, .int x3, .int x4], [], (zl sn sx, X, xr E G Q N A U Y K H tl, q)) oo := by
  unfold j_M_takeBack_62 at hM
  obtain ⟨c1, hM⟩ := am_ifn hM
  refine am_ev.kc 5 70 [.ref 1000, am_ju, .int x2, .int x3, .int x4] [] (zl sn sx, X, xr E G ((upd (po_men Q) (x4).toNatClampNeg (0 : Int32)), (po_side Q), (po_rights Q), (po_passed Q), (po_clock Q)) N A U Y K H tl, q) c1 (fun _ _ => rfl) ?_
  obtain ⟨c2, hM⟩ := am_ifn hM
  refine am_ev.kc 6 80 [.ref 1000, am_ju, .int x2, .int x3, .int x4] [.int ((un_undoWhere U) (x2).toNatClampNeg), .ref 1002] (zl sn sx, X, xr E G ((upd (po_men Q) (x4).toNatClampNeg (0 : Int32)), (po_side Q), (po_rights Q), (po_passed Q), (po_clock Q)) N A U Y K H tl, q) c2 (fun _ _ => rfl) ?_
  obtain ⟨c3, hM⟩ := am_ifn hM
  refine am_ev.kc 4 86 [.ref 1000, am_ju, .int x2, .int x3, .int x4] [.int ((un_undoTaken U) (x2).toNatClampNeg), .int ((un_undoWhere U) (x2).toNatClampNeg), .ref 1002] (zl sn sx, X, xr E G ((upd (po_men Q) (x4).toNatClampNeg (0 : Int32)), (po_side Q), (po_rights Q), (po_passed Q), (po_clock Q)) N A U Y K H tl, q) c3 (fun _ _ => rfl) ?_
  obtain ⟨c4, hM⟩ := am_ifn hM
  refine am_ev.kc 1 87 [.ref 1000, am_ju, .int x2, .int x3, .int x4] [] (zl sn sx, X, xr E G ((upd (upd (po_men Q) (x4).toNatClampNeg (0 : Int32)) (((un_undoWhere U) (x2).toNatClampNeg)).toNatClampNeg ((un_undoTaken U) (x2).toNatClampNeg)), (po_side Q), (po_rights Q), (po_passed Q), (po_clock Q)) N A U Y K H tl, q) c4 (fun _ _ => rfl) ?_
  obtain ⟨c5, hM⟩ := am_ifn hM
  refine am_ev.kc 7 98 [.ref 1000, am_ju, .int x2, .int x3, .int x4] [.int ((un_undoMan U) (x2).toNatClampNeg), .int x3, .ref 1002] (zl sn sx, X, xr E G ((upd (upd (po_men Q) (x4).toNatClampNeg (0 : Int32)) (((un_undoWhere U) (x2).toNatClampNeg)).toNatClampNeg ((un_undoTaken U) (x2).toNatClampNeg)), (po_side Q), (po_rights Q), (po_passed Q), (po_clock Q)) N A U Y K H tl, q) c5 (fun _ _ => rfl) ?_
  obtain ⟨c6, hM⟩ := am_ifn hM
  refine am_ev.kc 1 99 [.ref 1000, am_ju, .int x2, .int x3, .int x4] [] (zl sn sx, X, xr E G ((upd (upd (upd (po_men Q) (x4).toNatClampNeg (0 : Int32)) (((un_undoWhere U) (x2).toNatClampNeg)).toNatClampNeg ((un_undoTaken U) (x2).toNatClampNeg)) (x3).toNatClampNeg ((un_undoMan U) (x2).toNatClampNeg)), (po_side Q), (po_rights Q), (po_passed Q), (po_clock Q)) N A U Y K H tl, q) c6 (fun _ _ => rfl) ?_
  obtain ⟨c7, hM⟩ := am_ifn hM
  refine am_ev.kc 5 106 [.ref 1000, am_ju, .int x2, .int x3, .int x4] [.int ((un_undoRights U) (x2).toNatClampNeg), .ref 1000] (zl sn sx, X, xr E G ((upd (upd (upd (po_men Q) (x4).toNatClampNeg (0 : Int32)) (((un_undoWhere U) (x2).toNatClampNeg)).toNatClampNeg ((un_undoTaken U) (x2).toNatClampNeg)) (x3).toNatClampNeg ((un_undoMan U) (x2).toNatClampNeg)), (po_side Q), (po_rights Q), (po_passed Q), (po_clock Q)) N A U Y K H tl, q) c7 (fun _ _ => rfl) ?_
  obtain ⟨c8, hM⟩ := am_ifn hM
  refine am_ev.kc 6 116 [.ref 1000, am_ju, .int x2, .int x3, .int x4] [.int ((un_undoPassed U) (x2).toNatClampNeg), .ref 1000] (zl sn sx, X, xr E G ((upd (upd (upd (po_men Q) (x4).toNatClampNeg (0 : Int32)) (((un_undoWhere U) (x2).toNatClampNeg)).toNatClampNeg ((un_undoTaken U) (x2).toNatClampNeg)) (x3).toNatClampNeg ((un_undoMan U) (x2).toNatClampNeg)), (po_side Q), ((un_undoRights U) (x2).toNatClampNeg), (po_passed Q), (po_clock Q)) N A U Y K H tl, q) c8 (fun _ _ => rfl) ?_
  obtain ⟨c9, hM⟩ := am_ifn hM
  refine am_ev.kc 6 126 [.ref 1000, am_ju, .int x2, .int x3, .int x4] [.int ((un_undoClock U) (x2).toNatClampNeg), .ref 1000] (zl sn sx, X, xr E G ((upd (upd (upd (po_men Q) (x4).toNatClampNeg (0 : Int32)) (((un_undoWhere U) (x2).toNatClampNeg)).toNatClampNeg ((un_undoTaken U) (x2).toNatClampNeg)) (x3).toNatClampNeg ((un_undoMan U) (x2).toNatClampNeg)), (po_side Q), ((un_undoRights U) (x2).toNatClampNeg), ((un_undoPassed U) (x2).toNatClampNeg), (po_clock Q)) N A U Y K H tl, q) c9 (fun _ _ => rfl) ?_
  cases hM
  cases hx
  exact am_ev.kf 2 (fun _ _ => rfl)
theorem sj_M_takeBack_54 {sn : Nat} {sx : Nat → Int32} {X : List am_C} {q : Nat × Nat} {tl : List am_C} {E : ThT} {G : RtT} {Q : PoT} {N : NuT} {A : PaT} {U : UnT} {Y : LiT} {K : KeT} {H : HlT} {x2 : Int32} {x3 : Int32} {x4 : Int32} {oo : am_O} {e : PoT} (hx : y_M_takeBack sn sx X q tl E G N A U Y K H oo e) (hM : j_M_takeBack_54 Q U x2 x3 x4 = some e) : am_ev 2 k_M_takeBack (54, [.ref 1000, am_ju, .int x2, .int x3, .int x4], [], (zl sn sx, X, xr E G Q N A U Y K H tl, q)) oo := by
  unfold j_M_takeBack_54 at hM
  obtain ⟨rr, hc, hM⟩ := am_bind hM
  obtain ⟨qg2, rfl⟩ : ∃ z, z = rr := ⟨_, rfl⟩
  refine am_ev.kg 4 (pc' := 59) (lv' := [.ref 1000, am_ju, .int x2, .int x3, .int x4]) (st' := [.int (1 : Int32), .int x4, .int x3, .ref 1000]) (h' := (zl sn sx, X, xr E G Q N A U Y K H tl, q)) (fun _ _ => rfl) ?_
  refine am_ev.call rfl rfl rfl ((s_M_castleRook hc).mono (by decide)) ?_
  show am_ev _ k_M_takeBack (62, [.ref 1000, am_ju, .int x2, .int x3, .int x4], [], (zl sn sx, X, xr E G qg2 N A U Y K H tl, q)) oo
  exact sj_M_takeBack_62 hx hM
theorem se_M_takeBack {sn : Nat} {sx : Nat → Int32} {X : List am_C} {q : Nat × Nat} {tl : List am_C} {E : ThT} {G : RtT} {Q : PoT} {N : NuT} {A : PaT} {U : UnT} {Y : LiT} {K : KeT} {H : HlT} {x1 : Int32} {x2 : Int32} {oo : am_O} {e : PoT} (hx : y_M_takeBack sn sx X q tl E G N A U Y K H oo e) (hM : f_M_takeBack x1 x2 Q U = some e) : am_ev 2 k_M_takeBack (0, [.ref 1000, .int x1, .int x2, am_ju, am_ju], [], (zl sn sx, X, xr E G Q N A U Y K H tl, q)) oo := by
  unfold f_M_takeBack at hM
  obtain ⟨c10, hM⟩ := am_ifn hM
  refine am_ev.kc 20 30 [.ref 1000, .int x1, .int x2, .int (x1 &&& (63 : Int32)), .int ((x1 >>> ((6 : Int32) &&& 31)) &&& (63 : Int32))] [.int ((un_undoMan U) (x2).toNatClampNeg)] (zl sn sx, X, xr E G ((po_men Q), ((1 : Int32) - (po_side Q)), (po_rights Q), (po_passed Q), (po_clock Q)) N A U Y K H tl, q) c10 (fun _ _ => rfl) ?_
  obtain ⟨rr, hc, hM⟩ := am_bind hM
  obtain ⟨r1, rfl⟩ : ∃ z, z = rr := ⟨_, rfl⟩
  refine am_ev.call rfl rfl rfl ((s_M_kind hc).mono (by decide)) ?_
  show am_ev _ k_M_takeBack (33, [.ref 1000, .int x1, .int x2, .int (x1 &&& (63 : Int32)), .int ((x1 >>> ((6 : Int32) &&& 31)) &&& (63 : Int32))], [.int r1], (zl sn sx, X, xr E G ((po_men Q), ((1 : Int32) - (po_side Q)), (po_rights Q), (po_passed Q), (po_clock Q)) N A U Y K H tl, q)) oo
  rcases am_if hM with ⟨c11, hM⟩ | ⟨c11, hM⟩
  · refine am_ev.kt 2 62 38 [.ref 1000, .int x1, .int x2, .int (x1 &&& (63 : Int32)), .int ((x1 >>> ((6 : Int32) &&& 31)) &&& (63 : Int32))] [] (zl sn sx, X, xr E G ((po_men Q), ((1 : Int32) - (po_side Q)), (po_rights Q), (po_passed Q), (po_clock Q)) N A U Y K H tl, q) c11 (fun _ _ => rfl) ?_
    refine am_ev.wk (lv' := [.ref 1000, am_ju, .int x2, .int (x1 &&& (63 : Int32)), .int ((x1 >>> ((6 : Int32) &&& 31)) &&& (63 : Int32))]) (am_lc (Or.inr rfl) (am_lc (Or.inl rfl) (am_lc (Or.inr rfl) (am_lc (Or.inr rfl) (am_lc (Or.inr rfl) am_ln))))) ?_
    exact sj_M_takeBack_62 hx hM
  · refine am_ev.ke 2 62 38 [.ref 1000, .int x1, .int x2, .int (x1 &&& (63 : Int32)), .int ((x1 >>> ((6 : Int32) &&& 31)) &&& (63 : Int32))] [] (zl sn sx, X, xr E G ((po_men Q), ((1 : Int32) - (po_side Q)), (po_rights Q), (po_passed Q), (po_clock Q)) N A U Y K H tl, q) c11 (fun _ _ => rfl) ?_
    rcases am_if hM with ⟨c12, hM⟩ | ⟨c12, hM⟩
    · refine am_ev.kt 5 54 46 [.ref 1000, .int x1, .int x2, .int (x1 &&& (63 : Int32)), .int ((x1 >>> ((6 : Int32) &&& 31)) &&& (63 : Int32))] [] (zl sn sx, X, xr E G ((po_men Q), ((1 : Int32) - (po_side Q)), (po_rights Q), (po_passed Q), (po_clock Q)) N A U Y K H tl, q) c12 (fun _ _ => rfl) ?_
      refine am_ev.wk (lv' := [.ref 1000, am_ju, .int x2, .int (x1 &&& (63 : Int32)), .int ((x1 >>> ((6 : Int32) &&& 31)) &&& (63 : Int32))]) (am_lc (Or.inr rfl) (am_lc (Or.inl rfl) (am_lc (Or.inr rfl) (am_lc (Or.inr rfl) (am_lc (Or.inr rfl) am_ln))))) ?_
      exact sj_M_takeBack_54 hx hM
    · refine am_ev.ke 5 54 46 [.ref 1000, .int x1, .int x2, .int (x1 &&& (63 : Int32)), .int ((x1 >>> ((6 : Int32) &&& 31)) &&& (63 : Int32))] [] (zl sn sx, X, xr E G ((po_men Q), ((1 : Int32) - (po_side Q)), (po_rights Q), (po_passed Q), (po_clock Q)) N A U Y K H tl, q) c12 (fun _ _ => rfl) ?_
      rcases am_if hM with ⟨c13, hM⟩ | ⟨c13, hM⟩
      · refine am_ev.kt 5 62 54 [.ref 1000, .int x1, .int x2, .int (x1 &&& (63 : Int32)), .int ((x1 >>> ((6 : Int32) &&& 31)) &&& (63 : Int32))] [] (zl sn sx, X, xr E G ((po_men Q), ((1 : Int32) - (po_side Q)), (po_rights Q), (po_passed Q), (po_clock Q)) N A U Y K H tl, q) c13 (fun _ _ => rfl) ?_
        refine am_ev.wk (lv' := [.ref 1000, am_ju, .int x2, .int (x1 &&& (63 : Int32)), .int ((x1 >>> ((6 : Int32) &&& 31)) &&& (63 : Int32))]) (am_lc (Or.inr rfl) (am_lc (Or.inl rfl) (am_lc (Or.inr rfl) (am_lc (Or.inr rfl) (am_lc (Or.inr rfl) am_ln))))) ?_
        exact sj_M_takeBack_62 hx hM
      · refine am_ev.ke 5 62 54 [.ref 1000, .int x1, .int x2, .int (x1 &&& (63 : Int32)), .int ((x1 >>> ((6 : Int32) &&& 31)) &&& (63 : Int32))] [] (zl sn sx, X, xr E G ((po_men Q), ((1 : Int32) - (po_side Q)), (po_rights Q), (po_passed Q), (po_clock Q)) N A U Y K H tl, q) c13 (fun _ _ => rfl) ?_
        refine am_ev.wk (lv' := [.ref 1000, am_ju, .int x2, .int (x1 &&& (63 : Int32)), .int ((x1 >>> ((6 : Int32) &&& 31)) &&& (63 : Int32))]) (am_lc (Or.inr rfl) (am_lc (Or.inl rfl) (am_lc (Or.inr rfl) (am_lc (Or.inr rfl) (am_lc (Or.inr rfl) am_ln))))) ?_
        exact sj_M_takeBack_54 hx hM
theorem s_M_takeBack {sn : Nat} {sx : Nat → Int32} {X : List am_C} {q : Nat × Nat} {tl : List am_C} {E : ThT} {G : RtT} {Q : PoT} {N : NuT} {A : PaT} {U : UnT} {Y : LiT} {K : KeT} {H : HlT} {x1 : Int32} {x2 : Int32} {oQ : PoT} (hM : f_M_takeBack x1 x2 Q U = some oQ) : am_cv 3 k_M_takeBack [.ref 1000, .int x1, .int x2] (zl sn sx, X, xr E G Q N A U Y K H tl, q) (.inl none, (zl sn sx, X, xr E G oQ N A U Y K H tl, q)) := am_cv.of rfl (se_M_takeBack (e := oQ) (show y_M_takeBack sn sx X q tl E G N A U Y K H _ oQ from rfl) hM)
def y_M_isOn (sn : Nat) (sx : Nat → Int32) (X : List am_C) (q : Nat × Nat) (tl : List am_C) (E : ThT) (G : RtT) (Q : PoT) (N : NuT) (A : PaT) (U : UnT) (Y : LiT) (K : KeT) (H : HlT) (oo : am_O) : Int32 → Prop
  | ov => oo = (.inl (some (.int ov)), (zl sn sx, X, xr E G Q N A U Y K H tl, q))
theorem se_M_isOn {sn : Nat} {sx : Nat → Int32} {X : List am_C} {q : Nat × Nat} {tl : List am_C} {E : ThT} {G : RtT} {Q : PoT} {N : NuT} {A : PaT} {U : UnT} {Y : LiT} {K : KeT} {H : HlT} {x0 : Int32} {x1 : Int32} {oo : am_O} {e : Int32} (hx : y_M_isOn sn sx X q tl E G Q N A U Y K H oo e) (hM : f_M_isOn x0 x1 = some e) : am_ev 1 k_M_isOn (0, [.int x0, .int x1], [], (zl sn sx, X, xr E G Q N A U Y K H tl, q)) oo := by
  unfold f_M_isOn at hM
  rcases am_if hM with ⟨c1, hM⟩ | ⟨c1, hM⟩
  · refine am_ev.kt 2 24 4 [.int x0, .int x1] [] (zl sn sx, X, xr E G Q N A U Y K H tl, q) c1 (fun _ _ => rfl) ?_
    cases hM
    cases hx
    exact am_ev.kf 2 (fun _ _ => rfl)
  · refine am_ev.ke 2 24 4 [.int x0, .int x1] [] (zl sn sx, X, xr E G Q N A U Y K H tl, q) c1 (fun _ _ => rfl) ?_
    rcases am_if hM with ⟨c2, hM⟩ | ⟨c2, hM⟩
    · refine am_ev.kt 3 24 10 [.int x0, .int x1] [] (zl sn sx, X, xr E G Q N A U Y K H tl, q) c2 (fun _ _ => rfl) ?_
      cases hM
      cases hx
      exact am_ev.kf 2 (fun _ _ => rfl)
    · refine am_ev.ke 3 24 10 [.int x0, .int x1] [] (zl sn sx, X, xr E G Q N A U Y K H tl, q) c2 (fun _ _ => rfl) ?_
      rcases am_if hM with ⟨c3, hM⟩ | ⟨c3, hM⟩
      · refine am_ev.kt 2 24 14 [.int x0, .int x1] [] (zl sn sx, X, xr E G Q N A U Y K H tl, q) c3 (fun _ _ => rfl) ?_
        cases hM
        cases hx
        exact am_ev.kf 2 (fun _ _ => rfl)
      · refine am_ev.ke 2 24 14 [.int x0, .int x1] [] (zl sn sx, X, xr E G Q N A U Y K H tl, q) c3 (fun _ _ => rfl) ?_
        rcases am_if hM with ⟨c4, hM⟩ | ⟨c4, hM⟩
        · refine am_ev.kt 3 24 20 [.int x0, .int x1] [] (zl sn sx, X, xr E G Q N A U Y K H tl, q) c4 (fun _ _ => rfl) ?_
          cases hM
          cases hx
          exact am_ev.kf 2 (fun _ _ => rfl)
        · refine am_ev.ke 3 24 20 [.int x0, .int x1] [] (zl sn sx, X, xr E G Q N A U Y K H tl, q) c4 (fun _ _ => rfl) ?_
          cases hM
          cases hx
          exact am_ev.kf 3 (fun _ _ => rfl)
theorem s_M_isOn {sn : Nat} {sx : Nat → Int32} {X : List am_C} {q : Nat × Nat} {tl : List am_C} {E : ThT} {G : RtT} {Q : PoT} {N : NuT} {A : PaT} {U : UnT} {Y : LiT} {K : KeT} {H : HlT} {x0 : Int32} {x1 : Int32} {ov : Int32} (hM : f_M_isOn x0 x1 = some ov) : am_cv 2 k_M_isOn [.int x0, .int x1] (zl sn sx, X, xr E G Q N A U Y K H tl, q) (.inl (some (.int ov)), (zl sn sx, X, xr E G Q N A U Y K H tl, q)) := am_cv.of rfl (se_M_isOn (e := ov) (show y_M_isOn sn sx X q tl E G Q N A U Y K H _ ov from rfl) hM)
def y_M_step (sn : Nat) (sx : Nat → Int32) (X : List am_C) (q : Nat × Nat) (tl : List am_C) (E : ThT) (G : RtT) (Q : PoT) (N : NuT) (A : PaT) (U : UnT) (Y : LiT) (K : KeT) (H : HlT) (oo : am_O) : Int32 → Prop
  | ov => oo = (.inl (some (.int ov)), (zl sn sx, X, xr E G Q N A U Y K H tl, q))
theorem se_M_step {sn : Nat} {sx : Nat → Int32} {X : List am_C} {q : Nat × Nat} {tl : List am_C} {E : ThT} {G : RtT} {Q : PoT} {N : NuT} {A : PaT} {U : UnT} {Y : LiT} {K : KeT} {H : HlT} {x0 : Int32} {x1 : Int32} {x2 : Int32} {oo : am_O} {e : Int32} (hx : y_M_step sn sx X q tl E G Q N A U Y K H oo e) (hM : f_M_step x0 x1 x2 = some e) : am_ev 2 k_M_step (0, [.int x0, .int x1, .int x2, am_ju, am_ju], [], (zl sn sx, X, xr E G Q N A U Y K H tl, q)) oo := by
  unfold f_M_step at hM
  obtain ⟨rr, hc, hM⟩ := am_bind hM
  obtain ⟨r1, rfl⟩ : ∃ z, z = rr := ⟨_, rfl⟩
  refine am_ev.kg 14 (pc' := 17) (lv' := [.int x0, .int x1, .int x2, .int ((x0 &&& (7 : Int32)) + x1), .int ((x0 >>> ((3 : Int32) &&& 31)) + x2)]) (st' := [.int ((x0 >>> ((3 : Int32) &&& 31)) + x2), .int ((x0 &&& (7 : Int32)) + x1)]) (h' := (zl sn sx, X, xr E G Q N A U Y K H tl, q)) (fun _ _ => rfl) ?_
  refine am_ev.call rfl rfl rfl ((s_M_isOn hc).mono (by decide)) ?_
  show am_ev _ k_M_step (20, [.int x0, .int x1, .int x2, .int ((x0 &&& (7 : Int32)) + x1), .int ((x0 >>> ((3 : Int32) &&& 31)) + x2)], [.int r1], (zl sn sx, X, xr E G Q N A U Y K H tl, q)) oo
  rcases am_if hM with ⟨c1, hM⟩ | ⟨c1, hM⟩
  · refine am_ev.kt 1 33 23 [.int x0, .int x1, .int x2, .int ((x0 &&& (7 : Int32)) + x1), .int ((x0 >>> ((3 : Int32) &&& 31)) + x2)] [] (zl sn sx, X, xr E G Q N A U Y K H tl, q) c1 (fun _ _ => rfl) ?_
    cases hM
    cases hx
    exact am_ev.kf 2 (fun _ _ => rfl)
  · refine am_ev.ke 1 33 23 [.int x0, .int x1, .int x2, .int ((x0 &&& (7 : Int32)) + x1), .int ((x0 >>> ((3 : Int32) &&& 31)) + x2)] [] (zl sn sx, X, xr E G Q N A U Y K H tl, q) c1 (fun _ _ => rfl) ?_
    cases hM
    cases hx
    exact am_ev.kf 7 (fun _ _ => rfl)
theorem s_M_step {sn : Nat} {sx : Nat → Int32} {X : List am_C} {q : Nat × Nat} {tl : List am_C} {E : ThT} {G : RtT} {Q : PoT} {N : NuT} {A : PaT} {U : UnT} {Y : LiT} {K : KeT} {H : HlT} {x0 : Int32} {x1 : Int32} {x2 : Int32} {ov : Int32} (hM : f_M_step x0 x1 x2 = some ov) : am_cv 3 k_M_step [.int x0, .int x1, .int x2] (zl sn sx, X, xr E G Q N A U Y K H tl, q) (.inl (some (.int ov)), (zl sn sx, X, xr E G Q N A U Y K H tl, q)) := am_cv.of rfl (se_M_step (e := ov) (show y_M_step sn sx X q tl E G Q N A U Y K H _ ov from rfl) hM)
def y_M_hasMan (sn : Nat) (sx : Nat → Int32) (X : List am_C) (q : Nat × Nat) (tl : List am_C) (E : ThT) (G : RtT) (Q : PoT) (N : NuT) (A : PaT) (U : UnT) (Y : LiT) (K : KeT) (H : HlT) (oo : am_O) : Int32 → Prop
  | ov => oo = (.inl (some (.int ov)), (zl sn sx, X, xr E G Q N A U Y K H tl, q))
theorem se_M_hasMan {sn : Nat} {sx : Nat → Int32} {X : List am_C} {q : Nat × Nat} {tl : List am_C} {E : ThT} {G : RtT} {Q : PoT} {N : NuT} {A : PaT} {U : UnT} {Y : LiT} {K : KeT} {H : HlT} {x1 : Int32} {x2 : Int32} {oo : am_O} {e : Int32} (hx : y_M_hasMan sn sx X q tl E G Q N A U Y K H oo e) (hM : f_M_hasMan x1 x2 Q = some e) : am_ev 1 k_M_hasMan (0, [.ref 1000, .int x1, .int x2], [], (zl sn sx, X, xr E G Q N A U Y K H tl, q)) oo := by
  unfold f_M_hasMan at hM
  rcases am_if hM with ⟨c1, hM⟩ | ⟨c1, hM⟩
  · refine am_ev.kt 2 18 4 [.ref 1000, .int x1, .int x2] [] (zl sn sx, X, xr E G Q N A U Y K H tl, q) c1 (fun _ _ => rfl) ?_
    cases hM
    cases hx
    exact am_ev.kf 2 (fun _ _ => rfl)
  · refine am_ev.ke 2 18 4 [.ref 1000, .int x1, .int x2] [] (zl sn sx, X, xr E G Q N A U Y K H tl, q) c1 (fun _ _ => rfl) ?_
    obtain ⟨c2, hM⟩ := am_ifn hM
    refine am_ev.kc 4 10 [.ref 1000, .int x1, .int x2] [.int ((po_men Q) (x1).toNatClampNeg)] (zl sn sx, X, xr E G Q N A U Y K H tl, q) c2 (fun _ _ => rfl) ?_
    rcases am_if hM with ⟨c3, hM⟩ | ⟨c3, hM⟩
    · refine am_ev.kt 2 18 14 [.ref 1000, .int x1, .int x2] [] (zl sn sx, X, xr E G Q N A U Y K H tl, q) c3 (fun _ _ => rfl) ?_
      cases hM
      cases hx
      exact am_ev.kf 2 (fun _ _ => rfl)
    · refine am_ev.ke 2 18 14 [.ref 1000, .int x1, .int x2] [] (zl sn sx, X, xr E G Q N A U Y K H tl, q) c3 (fun _ _ => rfl) ?_
      cases hM
      cases hx
      exact am_ev.kf 3 (fun _ _ => rfl)
theorem s_M_hasMan {sn : Nat} {sx : Nat → Int32} {X : List am_C} {q : Nat × Nat} {tl : List am_C} {E : ThT} {G : RtT} {Q : PoT} {N : NuT} {A : PaT} {U : UnT} {Y : LiT} {K : KeT} {H : HlT} {x1 : Int32} {x2 : Int32} {ov : Int32} (hM : f_M_hasMan x1 x2 Q = some ov) : am_cv 2 k_M_hasMan [.ref 1000, .int x1, .int x2] (zl sn sx, X, xr E G Q N A U Y K H tl, q) (.inl (some (.int ov)), (zl sn sx, X, xr E G Q N A U Y K H tl, q)) := am_cv.of rfl (se_M_hasMan (e := ov) (show y_M_hasMan sn sx X q tl E G Q N A U Y K H _ ov from rfl) hM)
def y_M_lost (sn : Nat) (sx : Nat → Int32) (X : List am_C) (q : Nat × Nat) (tl : List am_C) (E : ThT) (G : RtT) (Q : PoT) (N : NuT) (A : PaT) (U : UnT) (Y : LiT) (K : KeT) (H : HlT) (oo : am_O) : Int32 → Prop
  | ov => oo = (.inl (some (.int ov)), (zl sn sx, X, xr E G Q N A U Y K H tl, q))
theorem se_M_lost {sn : Nat} {sx : Nat → Int32} {X : List am_C} {q : Nat × Nat} {tl : List am_C} {E : ThT} {G : RtT} {Q : PoT} {N : NuT} {A : PaT} {U : UnT} {Y : LiT} {K : KeT} {H : HlT} {x0 : Int32} {oo : am_O} {e : Int32} (hx : y_M_lost sn sx X q tl E G Q N A U Y K H oo e) (hM : f_M_lost x0 = some e) : am_ev 1 k_M_lost (0, [.int x0], [], (zl sn sx, X, xr E G Q N A U Y K H tl, q)) oo := by
  unfold f_M_lost at hM
  rcases am_if hM with ⟨c1, hM⟩ | ⟨c1, hM⟩
  · refine am_ev.kg 2 (pc' := 64) (lv' := [.int x0]) (st' := []) (h' := (zl sn sx, X, xr E G Q N A U Y K H tl, q)) (fun call kk => (show am_kw call k_M_lost 2 kk _ _ _ _ = cond (decide (x0 = (0 : Int32))) (kk 64 [.int x0] [] (zl sn sx, X, xr E G Q N A U Y K H tl, q)) (cond (decide (x0 = (4 : Int32))) (kk 60 [.int x0] [] (zl sn sx, X, xr E G Q N A U Y K H tl, q)) (cond (decide (x0 = (7 : Int32))) (kk 62 [.int x0] [] (zl sn sx, X, xr E G Q N A U Y K H tl, q)) (cond (decide (x0 = (56 : Int32))) (kk 71 [.int x0] [] (zl sn sx, X, xr E G Q N A U Y K H tl, q)) (cond (decide (x0 = (60 : Int32))) (kk 66 [.int x0] [] (zl sn sx, X, xr E G Q N A U Y K H tl, q)) (cond (decide (x0 = (63 : Int32))) (kk 69 [.int x0] [] (zl sn sx, X, xr E G Q N A U Y K H tl, q)) (kk 74 [.int x0] [] (zl sn sx, X, xr E G Q N A U Y K H tl, q))))))) from rfl).trans (by rw [decide_eq_true c1]; rfl)) ?_
    cases hM
    cases hx
    exact am_ev.kf 2 (fun _ _ => rfl)
  · skip
    rcases am_if hM with ⟨c2, hM⟩ | ⟨c2, hM⟩
    · refine am_ev.kg 2 (pc' := 60) (lv' := [.int x0]) (st' := []) (h' := (zl sn sx, X, xr E G Q N A U Y K H tl, q)) (fun call kk => (show am_kw call k_M_lost 2 kk _ _ _ _ = cond (decide (x0 = (0 : Int32))) (kk 64 [.int x0] [] (zl sn sx, X, xr E G Q N A U Y K H tl, q)) (cond (decide (x0 = (4 : Int32))) (kk 60 [.int x0] [] (zl sn sx, X, xr E G Q N A U Y K H tl, q)) (cond (decide (x0 = (7 : Int32))) (kk 62 [.int x0] [] (zl sn sx, X, xr E G Q N A U Y K H tl, q)) (cond (decide (x0 = (56 : Int32))) (kk 71 [.int x0] [] (zl sn sx, X, xr E G Q N A U Y K H tl, q)) (cond (decide (x0 = (60 : Int32))) (kk 66 [.int x0] [] (zl sn sx, X, xr E G Q N A U Y K H tl, q)) (cond (decide (x0 = (63 : Int32))) (kk 69 [.int x0] [] (zl sn sx, X, xr E G Q N A U Y K H tl, q)) (kk 74 [.int x0] [] (zl sn sx, X, xr E G Q N A U Y K H tl, q))))))) from rfl).trans (by rw [decide_eq_false c1, decide_eq_true c2]; rfl)) ?_
      cases hM
      cases hx
      exact am_ev.kf 2 (fun _ _ => rfl)
    · skip
      rcases am_if hM with ⟨c3, hM⟩ | ⟨c3, hM⟩
      · refine am_ev.kg 2 (pc' := 62) (lv' := [.int x0]) (st' := []) (h' := (zl sn sx, X, xr E G Q N A U Y K H tl, q)) (fun call kk => (show am_kw call k_M_lost 2 kk _ _ _ _ = cond (decide (x0 = (0 : Int32))) (kk 64 [.int x0] [] (zl sn sx, X, xr E G Q N A U Y K H tl, q)) (cond (decide (x0 = (4 : Int32))) (kk 60 [.int x0] [] (zl sn sx, X, xr E G Q N A U Y K H tl, q)) (cond (decide (x0 = (7 : Int32))) (kk 62 [.int x0] [] (zl sn sx, X, xr E G Q N A U Y K H tl, q)) (cond (decide (x0 = (56 : Int32))) (kk 71 [.int x0] [] (zl sn sx, X, xr E G Q N A U Y K H tl, q)) (cond (decide (x0 = (60 : Int32))) (kk 66 [.int x0] [] (zl sn sx, X, xr E G Q N A U Y K H tl, q)) (cond (decide (x0 = (63 : Int32))) (kk 69 [.int x0] [] (zl sn sx, X, xr E G Q N A U Y K H tl, q)) (kk 74 [.int x0] [] (zl sn sx, X, xr E G Q N A U Y K H tl, q))))))) from rfl).trans (by rw [decide_eq_false c1, decide_eq_false c2, decide_eq_true c3]; rfl)) ?_
        cases hM
        cases hx
        exact am_ev.kf 2 (fun _ _ => rfl)
      · skip
        rcases am_if hM with ⟨c4, hM⟩ | ⟨c4, hM⟩
        · refine am_ev.kg 2 (pc' := 71) (lv' := [.int x0]) (st' := []) (h' := (zl sn sx, X, xr E G Q N A U Y K H tl, q)) (fun call kk => (show am_kw call k_M_lost 2 kk _ _ _ _ = cond (decide (x0 = (0 : Int32))) (kk 64 [.int x0] [] (zl sn sx, X, xr E G Q N A U Y K H tl, q)) (cond (decide (x0 = (4 : Int32))) (kk 60 [.int x0] [] (zl sn sx, X, xr E G Q N A U Y K H tl, q)) (cond (decide (x0 = (7 : Int32))) (kk 62 [.int x0] [] (zl sn sx, X, xr E G Q N A U Y K H tl, q)) (cond (decide (x0 = (56 : Int32))) (kk 71 [.int x0] [] (zl sn sx, X, xr E G Q N A U Y K H tl, q)) (cond (decide (x0 = (60 : Int32))) (kk 66 [.int x0] [] (zl sn sx, X, xr E G Q N A U Y K H tl, q)) (cond (decide (x0 = (63 : Int32))) (kk 69 [.int x0] [] (zl sn sx, X, xr E G Q N A U Y K H tl, q)) (kk 74 [.int x0] [] (zl sn sx, X, xr E G Q N A U Y K H tl, q))))))) from rfl).trans (by rw [decide_eq_false c1, decide_eq_false c2, decide_eq_false c3, decide_eq_true c4]; rfl)) ?_
          cases hM
          cases hx
          exact am_ev.kf 2 (fun _ _ => rfl)
        · skip
          rcases am_if hM with ⟨c5, hM⟩ | ⟨c5, hM⟩
          · refine am_ev.kg 2 (pc' := 66) (lv' := [.int x0]) (st' := []) (h' := (zl sn sx, X, xr E G Q N A U Y K H tl, q)) (fun call kk => (show am_kw call k_M_lost 2 kk _ _ _ _ = cond (decide (x0 = (0 : Int32))) (kk 64 [.int x0] [] (zl sn sx, X, xr E G Q N A U Y K H tl, q)) (cond (decide (x0 = (4 : Int32))) (kk 60 [.int x0] [] (zl sn sx, X, xr E G Q N A U Y K H tl, q)) (cond (decide (x0 = (7 : Int32))) (kk 62 [.int x0] [] (zl sn sx, X, xr E G Q N A U Y K H tl, q)) (cond (decide (x0 = (56 : Int32))) (kk 71 [.int x0] [] (zl sn sx, X, xr E G Q N A U Y K H tl, q)) (cond (decide (x0 = (60 : Int32))) (kk 66 [.int x0] [] (zl sn sx, X, xr E G Q N A U Y K H tl, q)) (cond (decide (x0 = (63 : Int32))) (kk 69 [.int x0] [] (zl sn sx, X, xr E G Q N A U Y K H tl, q)) (kk 74 [.int x0] [] (zl sn sx, X, xr E G Q N A U Y K H tl, q))))))) from rfl).trans (by rw [decide_eq_false c1, decide_eq_false c2, decide_eq_false c3, decide_eq_false c4, decide_eq_true c5]; rfl)) ?_
            cases hM
            cases hx
            exact am_ev.kf 2 (fun _ _ => rfl)
          · skip
            rcases am_if hM with ⟨c6, hM⟩ | ⟨c6, hM⟩
            · refine am_ev.kg 2 (pc' := 69) (lv' := [.int x0]) (st' := []) (h' := (zl sn sx, X, xr E G Q N A U Y K H tl, q)) (fun call kk => (show am_kw call k_M_lost 2 kk _ _ _ _ = cond (decide (x0 = (0 : Int32))) (kk 64 [.int x0] [] (zl sn sx, X, xr E G Q N A U Y K H tl, q)) (cond (decide (x0 = (4 : Int32))) (kk 60 [.int x0] [] (zl sn sx, X, xr E G Q N A U Y K H tl, q)) (cond (decide (x0 = (7 : Int32))) (kk 62 [.int x0] [] (zl sn sx, X, xr E G Q N A U Y K H tl, q)) (cond (decide (x0 = (56 : Int32))) (kk 71 [.int x0] [] (zl sn sx, X, xr E G Q N A U Y K H tl, q)) (cond (decide (x0 = (60 : Int32))) (kk 66 [.int x0] [] (zl sn sx, X, xr E G Q N A U Y K H tl, q)) (cond (decide (x0 = (63 : Int32))) (kk 69 [.int x0] [] (zl sn sx, X, xr E G Q N A U Y K H tl, q)) (kk 74 [.int x0] [] (zl sn sx, X, xr E G Q N A U Y K H tl, q))))))) from rfl).trans (by rw [decide_eq_false c1, decide_eq_false c2, decide_eq_false c3, decide_eq_false c4, decide_eq_false c5, decide_eq_true c6]; rfl)) ?_
              cases hM
              cases hx
              exact am_ev.kf 2 (fun _ _ => rfl)
            · skip
              refine am_ev.kg 2 (pc' := 74) (lv' := [.int x0]) (st' := []) (h' := (zl sn sx, X, xr E G Q N A U Y K H tl, q)) (fun call kk => (show am_kw call k_M_lost 2 kk _ _ _ _ = cond (decide (x0 = (0 : Int32))) (kk 64 [.int x0] [] (zl sn sx, X, xr E G Q N A U Y K H tl, q)) (cond (decide (x0 = (4 : Int32))) (kk 60 [.int x0] [] (zl sn sx, X, xr E G Q N A U Y K H tl, q)) (cond (decide (x0 = (7 : Int32))) (kk 62 [.int x0] [] (zl sn sx, X, xr E G Q N A U Y K H tl, q)) (cond (decide (x0 = (56 : Int32))) (kk 71 [.int x0] [] (zl sn sx, X, xr E G Q N A U Y K H tl, q)) (cond (decide (x0 = (60 : Int32))) (kk 66 [.int x0] [] (zl sn sx, X, xr E G Q N A U Y K H tl, q)) (cond (decide (x0 = (63 : Int32))) (kk 69 [.int x0] [] (zl sn sx, X, xr E G Q N A U Y K H tl, q)) (kk 74 [.int x0] [] (zl sn sx, X, xr E G Q N A U Y K H tl, q))))))) from rfl).trans (by rw [decide_eq_false c1, decide_eq_false c2, decide_eq_false c3, decide_eq_false c4, decide_eq_false c5, decide_eq_false c6]; rfl)) ?_
              cases hM
              cases hx
              exact am_ev.kf 2 (fun _ _ => rfl)
theorem s_M_lost {sn : Nat} {sx : Nat → Int32} {X : List am_C} {q : Nat × Nat} {tl : List am_C} {E : ThT} {G : RtT} {Q : PoT} {N : NuT} {A : PaT} {U : UnT} {Y : LiT} {K : KeT} {H : HlT} {x0 : Int32} {ov : Int32} (hM : f_M_lost x0 = some ov) : am_cv 2 k_M_lost [.int x0] (zl sn sx, X, xr E G Q N A U Y K H tl, q) (.inl (some (.int ov)), (zl sn sx, X, xr E G Q N A U Y K H tl, q)) := am_cv.of rfl (se_M_lost (e := ov) (show y_M_lost sn sx X q tl E G Q N A U Y K H _ ov from rfl) hM)
def y_M_make (sn : Nat) (sx : Nat → Int32) (X : List am_C) (q : Nat × Nat) (tl : List am_C) (E : ThT) (G : RtT) (N : NuT) (A : PaT) (Y : LiT) (K : KeT) (H : HlT) (oo : am_O) : PoT × UnT → Prop
  | (oQ, oU) => oo = (.inl none, (zl sn sx, X, xr E G oQ N A oU Y K H tl, q))
theorem sj_M_make_349 {sn : Nat} {sx : Nat → Int32} {X : List am_C} {q : Nat × Nat} {tl : List am_C} {E : ThT} {G : RtT} {Q : PoT} {N : NuT} {A : PaT} {U : UnT} {Y : LiT} {K : KeT} {H : HlT} {oo : am_O} {e : PoT × UnT} (hx : y_M_make sn sx X q tl E G N A Y K H oo e) (hM : j_M_make_349 Q U = some e) : am_ev 3 k_M_make (349, [.ref 1000, am_ju, am_ju, am_ju, am_ju, am_ju, am_ju, am_ju, am_ju, am_ju], [], (zl sn sx, X, xr E G Q N A U Y K H tl, q)) oo := by
  unfold j_M_make_349 at hM
  cases hM
  cases hx
  exact am_ev.kf 7 (fun _ _ => rfl)
theorem sj_M_make_346 {sn : Nat} {sx : Nat → Int32} {X : List am_C} {q : Nat × Nat} {tl : List am_C} {E : ThT} {G : RtT} {Q : PoT} {N : NuT} {A : PaT} {U : UnT} {Y : LiT} {K : KeT} {H : HlT} {s1 : Int32} {oo : am_O} {e : PoT × UnT} (hx : y_M_make sn sx X q tl E G N A Y K H oo e) (hM : j_M_make_346 Q U s1 = some e) : am_ev 3 k_M_make (346, [.ref 1000, am_ju, am_ju, am_ju, am_ju, am_ju, am_ju, am_ju, am_ju, am_ju], [.int s1, .ref 1000], (zl sn sx, X, xr E G Q N A U Y K H tl, q)) oo := by
  unfold j_M_make_346 at hM
  refine am_ev.kg 1 (pc' := 349) (lv' := [.ref 1000, am_ju, am_ju, am_ju, am_ju, am_ju, am_ju, am_ju, am_ju, am_ju]) (st' := []) (h' := (zl sn sx, X, xr E G ((po_men Q), (po_side Q), (po_rights Q), s1, (po_clock Q)) N A U Y K H tl, q)) (fun _ _ => rfl) ?_
  exact sj_M_make_349 hx hM
theorem sj_M_make_336 {sn : Nat} {sx : Nat → Int32} {X : List am_C} {q : Nat × Nat} {tl : List am_C} {E : ThT} {G : RtT} {Q : PoT} {N : NuT} {A : PaT} {U : UnT} {Y : LiT} {K : KeT} {H : HlT} {x3 : Int32} {x4 : Int32} {oo : am_O} {e : PoT × UnT} (hx : y_M_make sn sx X q tl E G N A Y K H oo e) (hM : j_M_make_336 Q U x3 x4 = some e) : am_ev 3 k_M_make (336, [.ref 1000, am_ju, am_ju, .int x3, .int x4, am_ju, am_ju, am_ju, am_ju, am_ju], [.ref 1000], (zl sn sx, X, xr E G Q N A U Y K H tl, q)) oo := by
  unfold j_M_make_336 at hM
  refine am_ev.kg 6 (pc' := 346) (lv' := [.ref 1000, am_ju, am_ju, .int x3, .int x4, am_ju, am_ju, am_ju, am_ju, am_ju]) (st' := [.int ((x3 + x4) / (2 : Int32)), .ref 1000]) (h' := (zl sn sx, X, xr E G Q N A U Y K H tl, q)) (fun _ _ => rfl) ?_
  refine am_ev.wk (lv' := [.ref 1000, am_ju, am_ju, am_ju, am_ju, am_ju, am_ju, am_ju, am_ju, am_ju]) (am_lc (Or.inr rfl) (am_lc (Or.inr rfl) (am_lc (Or.inr rfl) (am_lc (Or.inl rfl) (am_lc (Or.inl rfl) (am_lc (Or.inr rfl) (am_lc (Or.inr rfl) (am_lc (Or.inr rfl) (am_lc (Or.inr rfl) (am_lc (Or.inr rfl) am_ln)))))))))) ?_
  exact sj_M_make_346 hx hM
theorem sj_M_make_290 {sn : Nat} {sx : Nat → Int32} {X : List am_C} {q : Nat × Nat} {tl : List am_C} {E : ThT} {G : RtT} {Q : PoT} {N : NuT} {A : PaT} {U : UnT} {Y : LiT} {K : KeT} {H : HlT} {x3 : Int32} {x4 : Int32} {oo : am_O} {e : PoT × UnT} (hx : y_M_make sn sx X q tl E G N A Y K H oo e) (hM : j_M_make_290 Q U x3 x4 = some e) : am_ev 3 k_M_make (290, [.ref 1000, am_ju, am_ju, .int x3, .int x4, am_ju, am_ju, am_ju, am_ju, am_ju], [], (zl sn sx, X, xr E G Q N A U Y K H tl, q)) oo := by
  unfold j_M_make_290 at hM
  obtain ⟨rr, hc, hM⟩ := am_bind hM
  obtain ⟨r6, rfl⟩ : ∃ z, z = rr := ⟨_, rfl⟩
  refine am_ev.kg 14 (pc' := 309) (lv' := [.ref 1000, am_ju, am_ju, .int x3, .int x4, am_ju, am_ju, am_ju, am_ju, .int ((1 : Int32) + ((8 : Int32) * ((1 : Int32) - (po_side Q))))]) (st' := [.int (0 : Int32), .int (-1 : Int32), .int x4, .ref 1000, .ref 1000]) (h' := (zl sn sx, X, xr E G Q N A U Y K H tl, q)) (fun _ _ => rfl) ?_
  refine am_ev.call rfl rfl rfl ((s_M_step hc).mono (by decide)) ?_
  show am_ev _ k_M_make (312, [.ref 1000, am_ju, am_ju, .int x3, .int x4, am_ju, am_ju, am_ju, am_ju, .int ((1 : Int32) + ((8 : Int32) * ((1 : Int32) - (po_side Q))))], [.int r6, .ref 1000, .ref 1000], (zl sn sx, X, xr E G Q N A U Y K H tl, q)) oo
  obtain ⟨rr, hc, hM⟩ := am_bind hM
  obtain ⟨r7, rfl⟩ : ∃ z, z = rr := ⟨_, rfl⟩
  refine am_ev.kg 1 (pc' := 314) (lv' := [.ref 1000, am_ju, am_ju, .int x3, .int x4, am_ju, am_ju, am_ju, am_ju, .int ((1 : Int32) + ((8 : Int32) * ((1 : Int32) - (po_side Q))))]) (st' := [.int ((1 : Int32) + ((8 : Int32) * ((1 : Int32) - (po_side Q)))), .int r6, .ref 1000, .ref 1000]) (h' := (zl sn sx, X, xr E G Q N A U Y K H tl, q)) (fun _ _ => rfl) ?_
  refine am_ev.call rfl rfl rfl ((s_M_hasMan hc).mono (by decide)) ?_
  show am_ev _ k_M_make (317, [.ref 1000, am_ju, am_ju, .int x3, .int x4, am_ju, am_ju, am_ju, am_ju, .int ((1 : Int32) + ((8 : Int32) * ((1 : Int32) - (po_side Q))))], [.int r7, .ref 1000], (zl sn sx, X, xr E G Q N A U Y K H tl, q)) oo
  rcases am_if hM with ⟨c1, hM⟩ | ⟨c1, hM⟩
  · refine am_ev.kt 1 336 320 [.ref 1000, am_ju, am_ju, .int x3, .int x4, am_ju, am_ju, am_ju, am_ju, .int ((1 : Int32) + ((8 : Int32) * ((1 : Int32) - (po_side Q))))] [.ref 1000] (zl sn sx, X, xr E G Q N A U Y K H tl, q) c1 (fun _ _ => rfl) ?_
    refine am_ev.wk (lv' := [.ref 1000, am_ju, am_ju, .int x3, .int x4, am_ju, am_ju, am_ju, am_ju, am_ju]) (am_lc (Or.inr rfl) (am_lc (Or.inr rfl) (am_lc (Or.inr rfl) (am_lc (Or.inr rfl) (am_lc (Or.inr rfl) (am_lc (Or.inr rfl) (am_lc (Or.inr rfl) (am_lc (Or.inr rfl) (am_lc (Or.inr rfl) (am_lc (Or.inl rfl) am_ln)))))))))) ?_
    exact sj_M_make_336 hx hM
  · refine am_ev.ke 1 336 320 [.ref 1000, am_ju, am_ju, .int x3, .int x4, am_ju, am_ju, am_ju, am_ju, .int ((1 : Int32) + ((8 : Int32) * ((1 : Int32) - (po_side Q))))] [.ref 1000] (zl sn sx, X, xr E G Q N A U Y K H tl, q) c1 (fun _ _ => rfl) ?_
    obtain ⟨rr, hc, hM⟩ := am_bind hM
    obtain ⟨r8, rfl⟩ : ∃ z, z = rr := ⟨_, rfl⟩
    refine am_ev.kg 4 (pc' := 325) (lv' := [.ref 1000, am_ju, am_ju, .int x3, .int x4, am_ju, am_ju, am_ju, am_ju, .int ((1 : Int32) + ((8 : Int32) * ((1 : Int32) - (po_side Q))))]) (st' := [.int (0 : Int32), .int (1 : Int32), .int x4, .ref 1000, .ref 1000]) (h' := (zl sn sx, X, xr E G Q N A U Y K H tl, q)) (fun _ _ => rfl) ?_
    refine am_ev.call rfl rfl rfl ((s_M_step hc).mono (by decide)) ?_
    show am_ev _ k_M_make (328, [.ref 1000, am_ju, am_ju, .int x3, .int x4, am_ju, am_ju, am_ju, am_ju, .int ((1 : Int32) + ((8 : Int32) * ((1 : Int32) - (po_side Q))))], [.int r8, .ref 1000, .ref 1000], (zl sn sx, X, xr E G Q N A U Y K H tl, q)) oo
    obtain ⟨rr, hc, hM⟩ := am_bind hM
    obtain ⟨r9, rfl⟩ : ∃ z, z = rr := ⟨_, rfl⟩
    refine am_ev.kg 1 (pc' := 330) (lv' := [.ref 1000, am_ju, am_ju, .int x3, .int x4, am_ju, am_ju, am_ju, am_ju, .int ((1 : Int32) + ((8 : Int32) * ((1 : Int32) - (po_side Q))))]) (st' := [.int ((1 : Int32) + ((8 : Int32) * ((1 : Int32) - (po_side Q)))), .int r8, .ref 1000, .ref 1000]) (h' := (zl sn sx, X, xr E G Q N A U Y K H tl, q)) (fun _ _ => rfl) ?_
    refine am_ev.call rfl rfl rfl ((s_M_hasMan hc).mono (by decide)) ?_
    show am_ev _ k_M_make (333, [.ref 1000, am_ju, am_ju, .int x3, .int x4, am_ju, am_ju, am_ju, am_ju, .int ((1 : Int32) + ((8 : Int32) * ((1 : Int32) - (po_side Q))))], [.int r9, .ref 1000], (zl sn sx, X, xr E G Q N A U Y K H tl, q)) oo
    rcases am_if hM with ⟨c2, hM⟩ | ⟨c2, hM⟩
    · refine am_ev.kt 1 345 336 [.ref 1000, am_ju, am_ju, .int x3, .int x4, am_ju, am_ju, am_ju, am_ju, .int ((1 : Int32) + ((8 : Int32) * ((1 : Int32) - (po_side Q))))] [.ref 1000] (zl sn sx, X, xr E G Q N A U Y K H tl, q) c2 (fun _ _ => rfl) ?_
      refine am_ev.kg 1 (pc' := 346) (lv' := [.ref 1000, am_ju, am_ju, .int x3, .int x4, am_ju, am_ju, am_ju, am_ju, .int ((1 : Int32) + ((8 : Int32) * ((1 : Int32) - (po_side Q))))]) (st' := [.int (-1 : Int32), .ref 1000]) (h' := (zl sn sx, X, xr E G Q N A U Y K H tl, q)) (fun _ _ => rfl) ?_
      refine am_ev.wk (lv' := [.ref 1000, am_ju, am_ju, am_ju, am_ju, am_ju, am_ju, am_ju, am_ju, am_ju]) (am_lc (Or.inr rfl) (am_lc (Or.inr rfl) (am_lc (Or.inr rfl) (am_lc (Or.inl rfl) (am_lc (Or.inl rfl) (am_lc (Or.inr rfl) (am_lc (Or.inr rfl) (am_lc (Or.inr rfl) (am_lc (Or.inr rfl) (am_lc (Or.inl rfl) am_ln)))))))))) ?_
      exact sj_M_make_346 hx hM
    · refine am_ev.ke 1 345 336 [.ref 1000, am_ju, am_ju, .int x3, .int x4, am_ju, am_ju, am_ju, am_ju, .int ((1 : Int32) + ((8 : Int32) * ((1 : Int32) - (po_side Q))))] [.ref 1000] (zl sn sx, X, xr E G Q N A U Y K H tl, q) c2 (fun _ _ => rfl) ?_
      refine am_ev.wk (lv' := [.ref 1000, am_ju, am_ju, .int x3, .int x4, am_ju, am_ju, am_ju, am_ju, am_ju]) (am_lc (Or.inr rfl) (am_lc (Or.inr rfl) (am_lc (Or.inr rfl) (am_lc (Or.inr rfl) (am_lc (Or.inr rfl) (am_lc (Or.inr rfl) (am_lc (Or.inr rfl) (am_lc (Or.inr rfl) (am_lc (Or.inr rfl) (am_lc (Or.inl rfl) am_ln)))))))))) ?_
      exact sj_M_make_336 hx hM
theorem sj_M_make_239 {sn : Nat} {sx : Nat → Int32} {X : List am_C} {q : Nat × Nat} {tl : List am_C} {E : ThT} {G : RtT} {Q : PoT} {N : NuT} {A : PaT} {U : UnT} {Y : LiT} {K : KeT} {H : HlT} {x3 : Int32} {x4 : Int32} {x7 : Int32} {oo : am_O} {e : PoT × UnT} (hx : y_M_make sn sx X q tl E G N A Y K H oo e) (hM : j_M_make_239 Q U x3 x4 x7 = some e) : am_ev 3 k_M_make (239, [.ref 1000, am_ju, am_ju, .int x3, .int x4, am_ju, am_ju, .int x7, am_ju, am_ju], [], (zl sn sx, X, xr E G Q N A U Y K H tl, q)) oo := by
  unfold j_M_make_239 at hM
  obtain ⟨rr, hc, hM⟩ := am_bind hM
  obtain ⟨r3, rfl⟩ : ∃ z, z = rr := ⟨_, rfl⟩
  refine am_ev.kg 4 (pc' := 245) (lv' := [.ref 1000, am_ju, am_ju, .int x3, .int x4, am_ju, am_ju, .int x7, am_ju, am_ju]) (st' := [.int x3, .int (po_rights Q), .ref 1000]) (h' := (zl sn sx, X, xr E G Q N A U Y K H tl, q)) (fun _ _ => rfl) ?_
  refine am_ev.call rfl rfl rfl ((s_M_lost hc).mono (by decide)) ?_
  show am_ev _ k_M_make (248, [.ref 1000, am_ju, am_ju, .int x3, .int x4, am_ju, am_ju, .int x7, am_ju, am_ju], [.int r3, .int (po_rights Q), .ref 1000], (zl sn sx, X, xr E G Q N A U Y K H tl, q)) oo
  obtain ⟨rr, hc, hM⟩ := am_bind hM
  obtain ⟨r4, rfl⟩ : ∃ z, z = rr := ⟨_, rfl⟩
  refine am_ev.kg 4 (pc' := 253) (lv' := [.ref 1000, am_ju, am_ju, .int x3, .int x4, am_ju, am_ju, .int x7, am_ju, am_ju]) (st' := [.int x4, .int ((po_rights Q) &&& (r3 ^^^ (-1 : Int32))), .ref 1000]) (h' := (zl sn sx, X, xr E G Q N A U Y K H tl, q)) (fun _ _ => rfl) ?_
  refine am_ev.call rfl rfl rfl ((s_M_lost hc).mono (by decide)) ?_
  show am_ev _ k_M_make (256, [.ref 1000, am_ju, am_ju, .int x3, .int x4, am_ju, am_ju, .int x7, am_ju, am_ju], [.int r4, .int ((po_rights Q) &&& (r3 ^^^ (-1 : Int32))), .ref 1000], (zl sn sx, X, xr E G Q N A U Y K H tl, q)) oo
  rcases am_if hM with ⟨c3, hM⟩ | ⟨c3, hM⟩
  · refine am_ev.kt 9 349 272 [.ref 1000, am_ju, am_ju, .int x3, .int x4, am_ju, am_ju, .int x7, am_ju, am_ju] [] (zl sn sx, X, xr E G ((po_men Q), (po_side Q), (((po_rights Q) &&& (r3 ^^^ (-1 : Int32))) &&& (r4 ^^^ (-1 : Int32))), (-1 : Int32), (po_clock Q)) N A U Y K H tl, q) c3 (fun _ _ => rfl) ?_
    refine am_ev.wk (lv' := [.ref 1000, am_ju, am_ju, am_ju, am_ju, am_ju, am_ju, am_ju, am_ju, am_ju]) (am_lc (Or.inr rfl) (am_lc (Or.inr rfl) (am_lc (Or.inr rfl) (am_lc (Or.inl rfl) (am_lc (Or.inl rfl) (am_lc (Or.inr rfl) (am_lc (Or.inr rfl) (am_lc (Or.inl rfl) (am_lc (Or.inr rfl) (am_lc (Or.inr rfl) am_ln)))))))))) ?_
    exact sj_M_make_349 hx hM
  · refine am_ev.ke 9 349 272 [.ref 1000, am_ju, am_ju, .int x3, .int x4, am_ju, am_ju, .int x7, am_ju, am_ju] [] (zl sn sx, X, xr E G ((po_men Q), (po_side Q), (((po_rights Q) &&& (r3 ^^^ (-1 : Int32))) &&& (r4 ^^^ (-1 : Int32))), (-1 : Int32), (po_clock Q)) N A U Y K H tl, q) c3 (fun _ _ => rfl) ?_
    rcases am_if hM with ⟨c4, hM⟩ | ⟨c4, hM⟩
    · refine am_ev.kt 5 290 281 [.ref 1000, am_ju, am_ju, .int x3, .int x4, am_ju, am_ju, .int x7, am_ju, am_ju] [] (zl sn sx, X, xr E G ((po_men Q), (po_side Q), (((po_rights Q) &&& (r3 ^^^ (-1 : Int32))) &&& (r4 ^^^ (-1 : Int32))), (-1 : Int32), (po_clock Q)) N A U Y K H tl, q) c4 (fun _ _ => rfl) ?_
      refine am_ev.wk (lv' := [.ref 1000, am_ju, am_ju, .int x3, .int x4, am_ju, am_ju, am_ju, am_ju, am_ju]) (am_lc (Or.inr rfl) (am_lc (Or.inr rfl) (am_lc (Or.inr rfl) (am_lc (Or.inr rfl) (am_lc (Or.inr rfl) (am_lc (Or.inr rfl) (am_lc (Or.inr rfl) (am_lc (Or.inl rfl) (am_lc (Or.inr rfl) (am_lc (Or.inr rfl) am_ln)))))))))) ?_
      exact sj_M_make_290 hx hM
    · refine am_ev.ke 5 290 281 [.ref 1000, am_ju, am_ju, .int x3, .int x4, am_ju, am_ju, .int x7, am_ju, am_ju] [] (zl sn sx, X, xr E G ((po_men Q), (po_side Q), (((po_rights Q) &&& (r3 ^^^ (-1 : Int32))) &&& (r4 ^^^ (-1 : Int32))), (-1 : Int32), (po_clock Q)) N A U Y K H tl, q) c4 (fun _ _ => rfl) ?_
      rcases am_if hM with ⟨c5, hM⟩ | ⟨c5, hM⟩
      · refine am_ev.kt 5 349 290 [.ref 1000, am_ju, am_ju, .int x3, .int x4, am_ju, am_ju, .int x7, am_ju, am_ju] [] (zl sn sx, X, xr E G ((po_men Q), (po_side Q), (((po_rights Q) &&& (r3 ^^^ (-1 : Int32))) &&& (r4 ^^^ (-1 : Int32))), (-1 : Int32), (po_clock Q)) N A U Y K H tl, q) c5 (fun _ _ => rfl) ?_
        refine am_ev.wk (lv' := [.ref 1000, am_ju, am_ju, am_ju, am_ju, am_ju, am_ju, am_ju, am_ju, am_ju]) (am_lc (Or.inr rfl) (am_lc (Or.inr rfl) (am_lc (Or.inr rfl) (am_lc (Or.inl rfl) (am_lc (Or.inl rfl) (am_lc (Or.inr rfl) (am_lc (Or.inr rfl) (am_lc (Or.inl rfl) (am_lc (Or.inr rfl) (am_lc (Or.inr rfl) am_ln)))))))))) ?_
        exact sj_M_make_349 hx hM
      · refine am_ev.ke 5 349 290 [.ref 1000, am_ju, am_ju, .int x3, .int x4, am_ju, am_ju, .int x7, am_ju, am_ju] [] (zl sn sx, X, xr E G ((po_men Q), (po_side Q), (((po_rights Q) &&& (r3 ^^^ (-1 : Int32))) &&& (r4 ^^^ (-1 : Int32))), (-1 : Int32), (po_clock Q)) N A U Y K H tl, q) c5 (fun _ _ => rfl) ?_
        refine am_ev.wk (lv' := [.ref 1000, am_ju, am_ju, .int x3, .int x4, am_ju, am_ju, am_ju, am_ju, am_ju]) (am_lc (Or.inr rfl) (am_lc (Or.inr rfl) (am_lc (Or.inr rfl) (am_lc (Or.inr rfl) (am_lc (Or.inr rfl) (am_lc (Or.inr rfl) (am_lc (Or.inr rfl) (am_lc (Or.inl rfl) (am_lc (Or.inr rfl) (am_lc (Or.inr rfl) am_ln)))))))))) ?_
        exact sj_M_make_290 hx hM
theorem sj_M_make_231 {sn : Nat} {sx : Nat → Int32} {X : List am_C} {q : Nat × Nat} {tl : List am_C} {E : ThT} {G : RtT} {Q : PoT} {N : NuT} {A : PaT} {U : UnT} {Y : LiT} {K : KeT} {H : HlT} {x3 : Int32} {x4 : Int32} {x7 : Int32} {oo : am_O} {e : PoT × UnT} (hx : y_M_make sn sx X q tl E G N A Y K H oo e) (hM : j_M_make_231 Q U x3 x4 x7 = some e) : am_ev 3 k_M_make (231, [.ref 1000, am_ju, am_ju, .int x3, .int x4, am_ju, am_ju, .int x7, am_ju, am_ju], [], (zl sn sx, X, xr E G Q N A U Y K H tl, q)) oo := by
  unfold j_M_make_231 at hM
  obtain ⟨rr, hc, hM⟩ := am_bind hM
  obtain ⟨qg5, rfl⟩ : ∃ z, z = rr := ⟨_, rfl⟩
  refine am_ev.kg 4 (pc' := 236) (lv' := [.ref 1000, am_ju, am_ju, .int x3, .int x4, am_ju, am_ju, .int x7, am_ju, am_ju]) (st' := [.int (0 : Int32), .int x4, .int x3, .ref 1000]) (h' := (zl sn sx, X, xr E G Q N A U Y K H tl, q)) (fun _ _ => rfl) ?_
  refine am_ev.call rfl rfl rfl ((s_M_castleRook hc).mono (by decide)) ?_
  show am_ev _ k_M_make (239, [.ref 1000, am_ju, am_ju, .int x3, .int x4, am_ju, am_ju, .int x7, am_ju, am_ju], [], (zl sn sx, X, xr E G qg5 N A U Y K H tl, q)) oo
  exact sj_M_make_239 hx hM
theorem sj_M_make_204 {sn : Nat} {sx : Nat → Int32} {X : List am_C} {q : Nat × Nat} {tl : List am_C} {E : ThT} {G : RtT} {Q : PoT} {N : NuT} {A : PaT} {U : UnT} {Y : LiT} {K : KeT} {H : HlT} {x3 : Int32} {x4 : Int32} {x6 : Int32} {x7 : Int32} {s1 : Int32} {s2 : Int32} {oo : am_O} {e : PoT × UnT} (hx : y_M_make sn sx X q tl E G N A Y K H oo e) (hM : j_M_make_204 Q U x3 x4 x6 x7 s1 s2 = some e) : am_ev 3 k_M_make (204, [.ref 1000, am_ju, am_ju, .int x3, .int x4, am_ju, .int x6, .int x7, am_ju, am_ju], [.int s2, .int s1, .ref 1002], (zl sn sx, X, xr E G Q N A U Y K H tl, q)) oo := by
  unfold j_M_make_204 at hM
  obtain ⟨c6, hM⟩ := am_ifn hM
  refine am_ev.kc 1 205 [.ref 1000, am_ju, am_ju, .int x3, .int x4, am_ju, .int x6, .int x7, am_ju, am_ju] [] (zl sn sx, X, xr E G ((upd (po_men Q) (s1).toNatClampNeg s2), (po_side Q), (po_rights Q), (po_passed Q), (po_clock Q)) N A U Y K H tl, q) c6 (fun _ _ => rfl) ?_
  obtain ⟨rr, hc, hM⟩ := am_bind hM
  obtain ⟨r2, rfl⟩ : ∃ z, z = rr := ⟨_, rfl⟩
  refine am_ev.kg 1 (pc' := 207) (lv' := [.ref 1000, am_ju, am_ju, .int x3, .int x4, am_ju, .int x6, .int x7, am_ju, am_ju]) (st' := [.int x6]) (h' := (zl sn sx, X, xr E G ((upd (po_men Q) (s1).toNatClampNeg s2), (po_side Q), (po_rights Q), (po_passed Q), (po_clock Q)) N A U Y K H tl, q)) (fun _ _ => rfl) ?_
  refine am_ev.call rfl rfl rfl ((s_M_kind hc).mono (by decide)) ?_
  show am_ev _ k_M_make (210, [.ref 1000, am_ju, am_ju, .int x3, .int x4, am_ju, .int x6, .int x7, am_ju, am_ju], [.int r2], (zl sn sx, X, xr E G ((upd (po_men Q) (s1).toNatClampNeg s2), (po_side Q), (po_rights Q), (po_passed Q), (po_clock Q)) N A U Y K H tl, q)) oo
  rcases am_if hM with ⟨c7, hM⟩ | ⟨c7, hM⟩
  · refine am_ev.kt 2 239 215 [.ref 1000, am_ju, am_ju, .int x3, .int x4, am_ju, .int x6, .int x7, am_ju, am_ju] [] (zl sn sx, X, xr E G ((upd (po_men Q) (s1).toNatClampNeg s2), (po_side Q), (po_rights Q), (po_passed Q), (po_clock Q)) N A U Y K H tl, q) c7 (fun _ _ => rfl) ?_
    refine am_ev.wk (lv' := [.ref 1000, am_ju, am_ju, .int x3, .int x4, am_ju, am_ju, .int x7, am_ju, am_ju]) (am_lc (Or.inr rfl) (am_lc (Or.inr rfl) (am_lc (Or.inr rfl) (am_lc (Or.inr rfl) (am_lc (Or.inr rfl) (am_lc (Or.inr rfl) (am_lc (Or.inl rfl) (am_lc (Or.inr rfl) (am_lc (Or.inr rfl) (am_lc (Or.inr rfl) am_ln)))))))))) ?_
    exact sj_M_make_239 hx hM
  · refine am_ev.ke 2 239 215 [.ref 1000, am_ju, am_ju, .int x3, .int x4, am_ju, .int x6, .int x7, am_ju, am_ju] [] (zl sn sx, X, xr E G ((upd (po_men Q) (s1).toNatClampNeg s2), (po_side Q), (po_rights Q), (po_passed Q), (po_clock Q)) N A U Y K H tl, q) c7 (fun _ _ => rfl) ?_
    rcases am_if hM with ⟨c8, hM⟩ | ⟨c8, hM⟩
    · refine am_ev.kt 5 231 223 [.ref 1000, am_ju, am_ju, .int x3, .int x4, am_ju, .int x6, .int x7, am_ju, am_ju] [] (zl sn sx, X, xr E G ((upd (po_men Q) (s1).toNatClampNeg s2), (po_side Q), (po_rights Q), (po_passed Q), (po_clock Q)) N A U Y K H tl, q) c8 (fun _ _ => rfl) ?_
      refine am_ev.wk (lv' := [.ref 1000, am_ju, am_ju, .int x3, .int x4, am_ju, am_ju, .int x7, am_ju, am_ju]) (am_lc (Or.inr rfl) (am_lc (Or.inr rfl) (am_lc (Or.inr rfl) (am_lc (Or.inr rfl) (am_lc (Or.inr rfl) (am_lc (Or.inr rfl) (am_lc (Or.inl rfl) (am_lc (Or.inr rfl) (am_lc (Or.inr rfl) (am_lc (Or.inr rfl) am_ln)))))))))) ?_
      exact sj_M_make_231 hx hM
    · refine am_ev.ke 5 231 223 [.ref 1000, am_ju, am_ju, .int x3, .int x4, am_ju, .int x6, .int x7, am_ju, am_ju] [] (zl sn sx, X, xr E G ((upd (po_men Q) (s1).toNatClampNeg s2), (po_side Q), (po_rights Q), (po_passed Q), (po_clock Q)) N A U Y K H tl, q) c8 (fun _ _ => rfl) ?_
      rcases am_if hM with ⟨c9, hM⟩ | ⟨c9, hM⟩
      · refine am_ev.kt 5 239 231 [.ref 1000, am_ju, am_ju, .int x3, .int x4, am_ju, .int x6, .int x7, am_ju, am_ju] [] (zl sn sx, X, xr E G ((upd (po_men Q) (s1).toNatClampNeg s2), (po_side Q), (po_rights Q), (po_passed Q), (po_clock Q)) N A U Y K H tl, q) c9 (fun _ _ => rfl) ?_
        refine am_ev.wk (lv' := [.ref 1000, am_ju, am_ju, .int x3, .int x4, am_ju, am_ju, .int x7, am_ju, am_ju]) (am_lc (Or.inr rfl) (am_lc (Or.inr rfl) (am_lc (Or.inr rfl) (am_lc (Or.inr rfl) (am_lc (Or.inr rfl) (am_lc (Or.inr rfl) (am_lc (Or.inl rfl) (am_lc (Or.inr rfl) (am_lc (Or.inr rfl) (am_lc (Or.inr rfl) am_ln)))))))))) ?_
        exact sj_M_make_239 hx hM
      · refine am_ev.ke 5 239 231 [.ref 1000, am_ju, am_ju, .int x3, .int x4, am_ju, .int x6, .int x7, am_ju, am_ju] [] (zl sn sx, X, xr E G ((upd (po_men Q) (s1).toNatClampNeg s2), (po_side Q), (po_rights Q), (po_passed Q), (po_clock Q)) N A U Y K H tl, q) c9 (fun _ _ => rfl) ?_
        refine am_ev.wk (lv' := [.ref 1000, am_ju, am_ju, .int x3, .int x4, am_ju, am_ju, .int x7, am_ju, am_ju]) (am_lc (Or.inr rfl) (am_lc (Or.inr rfl) (am_lc (Or.inr rfl) (am_lc (Or.inr rfl) (am_lc (Or.inr rfl) (am_lc (Or.inr rfl) (am_lc (Or.inl rfl) (am_lc (Or.inr rfl) (am_lc (Or.inr rfl) (am_lc (Or.inr rfl) am_ln)))))))))) ?_
        exact sj_M_make_231 hx hM
theorem sj_M_make_160 {sn : Nat} {sx : Nat → Int32} {X : List am_C} {q : Nat × Nat} {tl : List am_C} {E : ThT} {G : RtT} {Q : PoT} {N : NuT} {A : PaT} {U : UnT} {Y : LiT} {K : KeT} {H : HlT} {x3 : Int32} {x4 : Int32} {x5 : Int32} {x6 : Int32} {x7 : Int32} {x8 : Int32} {s1 : Int32} {oo : am_O} {e : PoT × UnT} (hx : y_M_make sn sx X q tl E G N A Y K H oo e) (hM : j_M_make_160 Q U x3 x4 x5 x6 x7 x8 s1 = some e) : am_ev 3 k_M_make (160, [.ref 1000, am_ju, am_ju, .int x3, .int x4, .int x5, .int x6, .int x7, .int x8, am_ju], [.int s1, .ref 1000], (zl sn sx, X, xr E G Q N A U Y K H tl, q)) oo := by
  unfold j_M_make_160 at hM
  obtain ⟨c10, hM⟩ := am_ifn hM
  refine am_ev.kc 6 171 [.ref 1000, am_ju, am_ju, .int x3, .int x4, .int x5, .int x6, .int x7, .int x8, am_ju] [] (zl sn sx, X, xr E G ((upd (po_men Q) (x8).toNatClampNeg (0 : Int32)), (po_side Q), (po_rights Q), (po_passed Q), s1) N A U Y K H tl, q) c10 (fun _ _ => rfl) ?_
  obtain ⟨c11, hM⟩ := am_ifn hM
  refine am_ev.kc 5 178 [.ref 1000, am_ju, am_ju, .int x3, .int x4, .int x5, .int x6, .int x7, .int x8, am_ju] [] (zl sn sx, X, xr E G ((upd (upd (po_men Q) (x8).toNatClampNeg (0 : Int32)) (x3).toNatClampNeg (0 : Int32)), (po_side Q), (po_rights Q), (po_passed Q), s1) N A U Y K H tl, q) c11 (fun _ _ => rfl) ?_
  rcases am_if hM with ⟨c12, hM⟩ | ⟨c12, hM⟩
  · refine am_ev.kt 5 202 189 [.ref 1000, am_ju, am_ju, .int x3, .int x4, .int x5, .int x6, .int x7, .int x8, am_ju] [.int x4, .ref 1002] (zl sn sx, X, xr E G ((upd (upd (po_men Q) (x8).toNatClampNeg (0 : Int32)) (x3).toNatClampNeg (0 : Int32)), (po_side Q), (po_rights Q), (po_passed Q), s1) N A U Y K H tl, q) c12 (fun _ _ => rfl) ?_
    refine am_ev.kg 1 (pc' := 204) (lv' := [.ref 1000, am_ju, am_ju, .int x3, .int x4, .int x5, .int x6, .int x7, .int x8, am_ju]) (st' := [.int x6, .int x4, .ref 1002]) (h' := (zl sn sx, X, xr E G ((upd (upd (po_men Q) (x8).toNatClampNeg (0 : Int32)) (x3).toNatClampNeg (0 : Int32)), (po_side Q), (po_rights Q), (po_passed Q), s1) N A U Y K H tl, q)) (fun _ _ => rfl) ?_
    refine am_ev.wk (lv' := [.ref 1000, am_ju, am_ju, .int x3, .int x4, am_ju, .int x6, .int x7, am_ju, am_ju]) (am_lc (Or.inr rfl) (am_lc (Or.inr rfl) (am_lc (Or.inr rfl) (am_lc (Or.inr rfl) (am_lc (Or.inr rfl) (am_lc (Or.inl rfl) (am_lc (Or.inr rfl) (am_lc (Or.inr rfl) (am_lc (Or.inl rfl) (am_lc (Or.inr rfl) am_ln)))))))))) ?_
    exact sj_M_make_204 hx hM
  · refine am_ev.ke 5 202 189 [.ref 1000, am_ju, am_ju, .int x3, .int x4, .int x5, .int x6, .int x7, .int x8, am_ju] [.int x4, .ref 1002] (zl sn sx, X, xr E G ((upd (upd (po_men Q) (x8).toNatClampNeg (0 : Int32)) (x3).toNatClampNeg (0 : Int32)), (po_side Q), (po_rights Q), (po_passed Q), s1) N A U Y K H tl, q) c12 (fun _ _ => rfl) ?_
    refine am_ev.kg 7 (pc' := 204) (lv' := [.ref 1000, am_ju, am_ju, .int x3, .int x4, .int x5, .int x6, .int x7, .int x8, am_ju]) (st' := [.int (x5 + ((8 : Int32) * (po_side Q))), .int x4, .ref 1002]) (h' := (zl sn sx, X, xr E G ((upd (upd (po_men Q) (x8).toNatClampNeg (0 : Int32)) (x3).toNatClampNeg (0 : Int32)), (po_side Q), (po_rights Q), (po_passed Q), s1) N A U Y K H tl, q)) (fun _ _ => rfl) ?_
    refine am_ev.wk (lv' := [.ref 1000, am_ju, am_ju, .int x3, .int x4, am_ju, .int x6, .int x7, am_ju, am_ju]) (am_lc (Or.inr rfl) (am_lc (Or.inr rfl) (am_lc (Or.inr rfl) (am_lc (Or.inr rfl) (am_lc (Or.inr rfl) (am_lc (Or.inl rfl) (am_lc (Or.inr rfl) (am_lc (Or.inr rfl) (am_lc (Or.inl rfl) (am_lc (Or.inr rfl) am_ln)))))))))) ?_
    exact sj_M_make_204 hx hM
theorem sj_M_make_150 {sn : Nat} {sx : Nat → Int32} {X : List am_C} {q : Nat × Nat} {tl : List am_C} {E : ThT} {G : RtT} {Q : PoT} {N : NuT} {A : PaT} {U : UnT} {Y : LiT} {K : KeT} {H : HlT} {x3 : Int32} {x4 : Int32} {x5 : Int32} {x6 : Int32} {x7 : Int32} {x8 : Int32} {oo : am_O} {e : PoT × UnT} (hx : y_M_make sn sx X q tl E G N A Y K H oo e) (hM : j_M_make_150 Q U x3 x4 x5 x6 x7 x8 = some e) : am_ev 3 k_M_make (150, [.ref 1000, am_ju, am_ju, .int x3, .int x4, .int x5, .int x6, .int x7, .int x8, am_ju], [.ref 1000], (zl sn sx, X, xr E G Q N A U Y K H tl, q)) oo := by
  unfold j_M_make_150 at hM
  refine am_ev.kg 2 (pc' := 160) (lv' := [.ref 1000, am_ju, am_ju, .int x3, .int x4, .int x5, .int x6, .int x7, .int x8, am_ju]) (st' := [.int (0 : Int32), .ref 1000]) (h' := (zl sn sx, X, xr E G Q N A U Y K H tl, q)) (fun _ _ => rfl) ?_
  exact sj_M_make_160 hx hM
theorem sj_M_make_73 {sn : Nat} {sx : Nat → Int32} {X : List am_C} {q : Nat × Nat} {tl : List am_C} {E : ThT} {G : RtT} {Q : PoT} {N : NuT} {A : PaT} {U : UnT} {Y : LiT} {K : KeT} {H : HlT} {x2 : Int32} {x3 : Int32} {x4 : Int32} {x5 : Int32} {x6 : Int32} {x7 : Int32} {s0 : Int32} {oo : am_O} {e : PoT × UnT} (hx : y_M_make sn sx X q tl E G N A Y K H oo e) (hM : j_M_make_73 Q U x2 x3 x4 x5 x6 x7 s0 = some e) : am_ev 3 k_M_make (73, [.ref 1000, am_ju, .int x2, .int x3, .int x4, .int x5, .int x6, .int x7, am_ju, am_ju], [.int s0], (zl sn sx, X, xr E G Q N A U Y K H tl, q)) oo := by
  unfold j_M_make_73 at hM
  obtain ⟨c13, hM⟩ := am_ifn hM
  refine am_ev.kc 6 83 [.ref 1000, am_ju, .int x2, .int x3, .int x4, .int x5, .int x6, .int x7, .int s0, am_ju] [] (zl sn sx, X, xr E G Q N A ((upd (un_undoMan U) (x2).toNatClampNeg x6), (un_undoTaken U), (un_undoWhere U), (un_undoRights U), (un_undoPassed U), (un_undoClock U)) Y K H tl, q) c13 (fun _ _ => rfl) ?_
  obtain ⟨c14, hM⟩ := am_ifn hM
  refine am_ev.kc 7 95 [.ref 1000, am_ju, .int x2, .int x3, .int x4, .int x5, .int x6, .int x7, .int s0, am_ju] [.int ((po_men Q) (s0).toNatClampNeg), .int x2, .ref 1008] (zl sn sx, X, xr E G Q N A ((upd (un_undoMan U) (x2).toNatClampNeg x6), (un_undoTaken U), (un_undoWhere U), (un_undoRights U), (un_undoPassed U), (un_undoClock U)) Y K H tl, q) c14 (fun _ _ => rfl) ?_
  obtain ⟨c15, hM⟩ := am_ifn hM
  refine am_ev.kc 1 96 [.ref 1000, am_ju, .int x2, .int x3, .int x4, .int x5, .int x6, .int x7, .int s0, am_ju] [] (zl sn sx, X, xr E G Q N A ((upd (un_undoMan U) (x2).toNatClampNeg x6), (upd (un_undoTaken U) (x2).toNatClampNeg ((po_men Q) (s0).toNatClampNeg)), (un_undoWhere U), (un_undoRights U), (un_undoPassed U), (un_undoClock U)) Y K H tl, q) c15 (fun _ _ => rfl) ?_
  obtain ⟨c16, hM⟩ := am_ifn hM
  refine am_ev.kc 5 104 [.ref 1000, am_ju, .int x2, .int x3, .int x4, .int x5, .int x6, .int x7, .int s0, am_ju] [] (zl sn sx, X, xr E G Q N A ((upd (un_undoMan U) (x2).toNatClampNeg x6), (upd (un_undoTaken U) (x2).toNatClampNeg ((po_men Q) (s0).toNatClampNeg)), (upd (un_undoWhere U) (x2).toNatClampNeg s0), (un_undoRights U), (un_undoPassed U), (un_undoClock U)) Y K H tl, q) c16 (fun _ _ => rfl) ?_
  obtain ⟨c17, hM⟩ := am_ifn hM
  refine am_ev.kc 6 114 [.ref 1000, am_ju, .int x2, .int x3, .int x4, .int x5, .int x6, .int x7, .int s0, am_ju] [] (zl sn sx, X, xr E G Q N A ((upd (un_undoMan U) (x2).toNatClampNeg x6), (upd (un_undoTaken U) (x2).toNatClampNeg ((po_men Q) (s0).toNatClampNeg)), (upd (un_undoWhere U) (x2).toNatClampNeg s0), (upd (un_undoRights U) (x2).toNatClampNeg (po_rights Q)), (un_undoPassed U), (un_undoClock U)) Y K H tl, q) c17 (fun _ _ => rfl) ?_
  obtain ⟨c18, hM⟩ := am_ifn hM
  refine am_ev.kc 6 124 [.ref 1000, am_ju, .int x2, .int x3, .int x4, .int x5, .int x6, .int x7, .int s0, am_ju] [] (zl sn sx, X, xr E G Q N A ((upd (un_undoMan U) (x2).toNatClampNeg x6), (upd (un_undoTaken U) (x2).toNatClampNeg ((po_men Q) (s0).toNatClampNeg)), (upd (un_undoWhere U) (x2).toNatClampNeg s0), (upd (un_undoRights U) (x2).toNatClampNeg (po_rights Q)), (upd (un_undoPassed U) (x2).toNatClampNeg (po_passed Q)), (un_undoClock U)) Y K H tl, q) c18 (fun _ _ => rfl) ?_
  obtain ⟨c19, hM⟩ := am_ifn hM
  refine am_ev.kc 6 134 [.ref 1000, am_ju, .int x2, .int x3, .int x4, .int x5, .int x6, .int x7, .int s0, am_ju] [] (zl sn sx, X, xr E G Q N A ((upd (un_undoMan U) (x2).toNatClampNeg x6), (upd (un_undoTaken U) (x2).toNatClampNeg ((po_men Q) (s0).toNatClampNeg)), (upd (un_undoWhere U) (x2).toNatClampNeg s0), (upd (un_undoRights U) (x2).toNatClampNeg (po_rights Q)), (upd (un_undoPassed U) (x2).toNatClampNeg (po_passed Q)), (upd (un_undoClock U) (x2).toNatClampNeg (po_clock Q))) Y K H tl, q) c19 (fun _ _ => rfl) ?_
  rcases am_if hM with ⟨c20, hM⟩ | ⟨c20, hM⟩
  · refine am_ev.kt 3 150 140 [.ref 1000, am_ju, .int x2, .int x3, .int x4, .int x5, .int x6, .int x7, .int s0, am_ju] [.ref 1000] (zl sn sx, X, xr E G Q N A ((upd (un_undoMan U) (x2).toNatClampNeg x6), (upd (un_undoTaken U) (x2).toNatClampNeg ((po_men Q) (s0).toNatClampNeg)), (upd (un_undoWhere U) (x2).toNatClampNeg s0), (upd (un_undoRights U) (x2).toNatClampNeg (po_rights Q)), (upd (un_undoPassed U) (x2).toNatClampNeg (po_passed Q)), (upd (un_undoClock U) (x2).toNatClampNeg (po_clock Q))) Y K H tl, q) c20 (fun _ _ => rfl) ?_
    refine am_ev.wk (lv' := [.ref 1000, am_ju, am_ju, .int x3, .int x4, .int x5, .int x6, .int x7, .int s0, am_ju]) (am_lc (Or.inr rfl) (am_lc (Or.inr rfl) (am_lc (Or.inl rfl) (am_lc (Or.inr rfl) (am_lc (Or.inr rfl) (am_lc (Or.inr rfl) (am_lc (Or.inr rfl) (am_lc (Or.inr rfl) (am_lc (Or.inr rfl) (am_lc (Or.inr rfl) am_ln)))))))))) ?_
    exact sj_M_make_150 hx hM
  · refine am_ev.ke 3 150 140 [.ref 1000, am_ju, .int x2, .int x3, .int x4, .int x5, .int x6, .int x7, .int s0, am_ju] [.ref 1000] (zl sn sx, X, xr E G Q N A ((upd (un_undoMan U) (x2).toNatClampNeg x6), (upd (un_undoTaken U) (x2).toNatClampNeg ((po_men Q) (s0).toNatClampNeg)), (upd (un_undoWhere U) (x2).toNatClampNeg s0), (upd (un_undoRights U) (x2).toNatClampNeg (po_rights Q)), (upd (un_undoPassed U) (x2).toNatClampNeg (po_passed Q)), (upd (un_undoClock U) (x2).toNatClampNeg (po_clock Q))) Y K H tl, q) c20 (fun _ _ => rfl) ?_
    obtain ⟨c21, hM⟩ := am_ifn hM
    refine am_ev.kc 4 147 [.ref 1000, am_ju, .int x2, .int x3, .int x4, .int x5, .int x6, .int x7, .int s0, am_ju] [.int ((po_men Q) (s0).toNatClampNeg), .ref 1000] (zl sn sx, X, xr E G Q N A ((upd (un_undoMan U) (x2).toNatClampNeg x6), (upd (un_undoTaken U) (x2).toNatClampNeg ((po_men Q) (s0).toNatClampNeg)), (upd (un_undoWhere U) (x2).toNatClampNeg s0), (upd (un_undoRights U) (x2).toNatClampNeg (po_rights Q)), (upd (un_undoPassed U) (x2).toNatClampNeg (po_passed Q)), (upd (un_undoClock U) (x2).toNatClampNeg (po_clock Q))) Y K H tl, q) c21 (fun _ _ => rfl) ?_
    rcases am_if hM with ⟨c22, hM⟩ | ⟨c22, hM⟩
    · refine am_ev.kt 1 154 150 [.ref 1000, am_ju, .int x2, .int x3, .int x4, .int x5, .int x6, .int x7, .int s0, am_ju] [.ref 1000] (zl sn sx, X, xr E G Q N A ((upd (un_undoMan U) (x2).toNatClampNeg x6), (upd (un_undoTaken U) (x2).toNatClampNeg ((po_men Q) (s0).toNatClampNeg)), (upd (un_undoWhere U) (x2).toNatClampNeg s0), (upd (un_undoRights U) (x2).toNatClampNeg (po_rights Q)), (upd (un_undoPassed U) (x2).toNatClampNeg (po_passed Q)), (upd (un_undoClock U) (x2).toNatClampNeg (po_clock Q))) Y K H tl, q) c22 (fun _ _ => rfl) ?_
      refine am_ev.kg 4 (pc' := 160) (lv' := [.ref 1000, am_ju, .int x2, .int x3, .int x4, .int x5, .int x6, .int x7, .int s0, am_ju]) (st' := [.int ((po_clock Q) + (1 : Int32)), .ref 1000]) (h' := (zl sn sx, X, xr E G Q N A ((upd (un_undoMan U) (x2).toNatClampNeg x6), (upd (un_undoTaken U) (x2).toNatClampNeg ((po_men Q) (s0).toNatClampNeg)), (upd (un_undoWhere U) (x2).toNatClampNeg s0), (upd (un_undoRights U) (x2).toNatClampNeg (po_rights Q)), (upd (un_undoPassed U) (x2).toNatClampNeg (po_passed Q)), (upd (un_undoClock U) (x2).toNatClampNeg (po_clock Q))) Y K H tl, q)) (fun _ _ => rfl) ?_
      refine am_ev.wk (lv' := [.ref 1000, am_ju, am_ju, .int x3, .int x4, .int x5, .int x6, .int x7, .int s0, am_ju]) (am_lc (Or.inr rfl) (am_lc (Or.inr rfl) (am_lc (Or.inl rfl) (am_lc (Or.inr rfl) (am_lc (Or.inr rfl) (am_lc (Or.inr rfl) (am_lc (Or.inr rfl) (am_lc (Or.inr rfl) (am_lc (Or.inr rfl) (am_lc (Or.inr rfl) am_ln)))))))))) ?_
      exact sj_M_make_160 hx hM
    · refine am_ev.ke 1 154 150 [.ref 1000, am_ju, .int x2, .int x3, .int x4, .int x5, .int x6, .int x7, .int s0, am_ju] [.ref 1000] (zl sn sx, X, xr E G Q N A ((upd (un_undoMan U) (x2).toNatClampNeg x6), (upd (un_undoTaken U) (x2).toNatClampNeg ((po_men Q) (s0).toNatClampNeg)), (upd (un_undoWhere U) (x2).toNatClampNeg s0), (upd (un_undoRights U) (x2).toNatClampNeg (po_rights Q)), (upd (un_undoPassed U) (x2).toNatClampNeg (po_passed Q)), (upd (un_undoClock U) (x2).toNatClampNeg (po_clock Q))) Y K H tl, q) c22 (fun _ _ => rfl) ?_
      refine am_ev.wk (lv' := [.ref 1000, am_ju, am_ju, .int x3, .int x4, .int x5, .int x6, .int x7, .int s0, am_ju]) (am_lc (Or.inr rfl) (am_lc (Or.inr rfl) (am_lc (Or.inl rfl) (am_lc (Or.inr rfl) (am_lc (Or.inr rfl) (am_lc (Or.inr rfl) (am_lc (Or.inr rfl) (am_lc (Or.inr rfl) (am_lc (Or.inr rfl) (am_lc (Or.inr rfl) am_ln)))))))))) ?_
      exact sj_M_make_150 hx hM
theorem sj_M_make_71 {sn : Nat} {sx : Nat → Int32} {X : List am_C} {q : Nat × Nat} {tl : List am_C} {E : ThT} {G : RtT} {Q : PoT} {N : NuT} {A : PaT} {U : UnT} {Y : LiT} {K : KeT} {H : HlT} {x2 : Int32} {x3 : Int32} {x4 : Int32} {x5 : Int32} {x6 : Int32} {x7 : Int32} {oo : am_O} {e : PoT × UnT} (hx : y_M_make sn sx X q tl E G N A Y K H oo e) (hM : j_M_make_71 Q U x2 x3 x4 x5 x6 x7 = some e) : am_ev 3 k_M_make (71, [.ref 1000, am_ju, .int x2, .int x3, .int x4, .int x5, .int x6, .int x7, am_ju, am_ju], [], (zl sn sx, X, xr E G Q N A U Y K H tl, q)) oo := by
  unfold j_M_make_71 at hM
  refine am_ev.kg 1 (pc' := 73) (lv' := [.ref 1000, am_ju, .int x2, .int x3, .int x4, .int x5, .int x6, .int x7, am_ju, am_ju]) (st' := [.int x4]) (h' := (zl sn sx, X, xr E G Q N A U Y K H tl, q)) (fun _ _ => rfl) ?_
  exact sj_M_make_73 hx hM
theorem sj_M_make_42 {sn : Nat} {sx : Nat → Int32} {X : List am_C} {q : Nat × Nat} {tl : List am_C} {E : ThT} {G : RtT} {Q : PoT} {N : NuT} {A : PaT} {U : UnT} {Y : LiT} {K : KeT} {H : HlT} {x2 : Int32} {x3 : Int32} {x4 : Int32} {x5 : Int32} {x6 : Int32} {s0 : Int32} {oo : am_O} {e : PoT × UnT} (hx : y_M_make sn sx X q tl E G N A Y K H oo e) (hM : j_M_make_42 Q U x2 x3 x4 x5 x6 s0 = some e) : am_ev 3 k_M_make (42, [.ref 1000, am_ju, .int x2, .int x3, .int x4, .int x5, .int x6, am_ju, am_ju, am_ju], [.int s0], (zl sn sx, X, xr E G Q N A U Y K H tl, q)) oo := by
  unfold j_M_make_42 at hM
  rcases am_if hM with ⟨c23, hM⟩ | ⟨c23, hM⟩
  · refine am_ev.kt 3 71 49 [.ref 1000, am_ju, .int x2, .int x3, .int x4, .int x5, .int x6, .int s0, am_ju, am_ju] [] (zl sn sx, X, xr E G Q N A U Y K H tl, q) c23 (fun _ _ => rfl) ?_
    exact sj_M_make_71 hx hM
  · refine am_ev.ke 3 71 49 [.ref 1000, am_ju, .int x2, .int x3, .int x4, .int x5, .int x6, .int s0, am_ju, am_ju] [] (zl sn sx, X, xr E G Q N A U Y K H tl, q) c23 (fun _ _ => rfl) ?_
    rcases am_if hM with ⟨c24, hM⟩ | ⟨c24, hM⟩
    · refine am_ev.kt 4 71 58 [.ref 1000, am_ju, .int x2, .int x3, .int x4, .int x5, .int x6, .int s0, am_ju, am_ju] [] (zl sn sx, X, xr E G Q N A U Y K H tl, q) c24 (fun _ _ => rfl) ?_
      exact sj_M_make_71 hx hM
    · refine am_ev.ke 4 71 58 [.ref 1000, am_ju, .int x2, .int x3, .int x4, .int x5, .int x6, .int s0, am_ju, am_ju] [] (zl sn sx, X, xr E G Q N A U Y K H tl, q) c24 (fun _ _ => rfl) ?_
      refine am_ev.kg 8 (pc' := 73) (lv' := [.ref 1000, am_ju, .int x2, .int x3, .int x4, .int x5, .int x6, .int s0, am_ju, am_ju]) (st' := [.int ((x3 &&& (56 : Int32)) + (x4 &&& (7 : Int32)))]) (h' := (zl sn sx, X, xr E G Q N A U Y K H tl, q)) (fun _ _ => rfl) ?_
      exact sj_M_make_73 hx hM
theorem se_M_make {sn : Nat} {sx : Nat → Int32} {X : List am_C} {q : Nat × Nat} {tl : List am_C} {E : ThT} {G : RtT} {Q : PoT} {N : NuT} {A : PaT} {U : UnT} {Y : LiT} {K : KeT} {H : HlT} {x1 : Int32} {x2 : Int32} {oo : am_O} {e : PoT × UnT} (hx : y_M_make sn sx X q tl E G N A Y K H oo e) (hM : f_M_make x1 x2 Q U = some e) : am_ev 3 k_M_make (0, [.ref 1000, .int x1, .int x2, am_ju, am_ju, am_ju, am_ju, am_ju, am_ju, am_ju], [], (zl sn sx, X, xr E G Q N A U Y K H tl, q)) oo := by
  unfold f_M_make at hM
  obtain ⟨c25, hM⟩ := am_ifn hM
  refine am_ev.kc 18 26 [.ref 1000, .int x1, .int x2, .int (x1 &&& (63 : Int32)), .int ((x1 >>> ((6 : Int32) &&& 31)) &&& (63 : Int32)), .int (x1 >>> ((12 : Int32) &&& 31)), am_ju, am_ju, am_ju, am_ju] [.int ((po_men Q) ((x1 &&& (63 : Int32))).toNatClampNeg)] (zl sn sx, X, xr E G Q N A U Y K H tl, q) c25 (fun _ _ => rfl) ?_
  obtain ⟨rr, hc, hM⟩ := am_bind hM
  obtain ⟨r1, rfl⟩ : ∃ z, z = rr := ⟨_, rfl⟩
  refine am_ev.kg 2 (pc' := 30) (lv' := [.ref 1000, .int x1, .int x2, .int (x1 &&& (63 : Int32)), .int ((x1 >>> ((6 : Int32) &&& 31)) &&& (63 : Int32)), .int (x1 >>> ((12 : Int32) &&& 31)), .int ((po_men Q) ((x1 &&& (63 : Int32))).toNatClampNeg), am_ju, am_ju, am_ju]) (st' := [.int ((po_men Q) ((x1 &&& (63 : Int32))).toNatClampNeg)]) (h' := (zl sn sx, X, xr E G Q N A U Y K H tl, q)) (fun _ _ => rfl) ?_
  refine am_ev.call rfl rfl rfl ((s_M_kind hc).mono (by decide)) ?_
  show am_ev _ k_M_make (33, [.ref 1000, .int x1, .int x2, .int (x1 &&& (63 : Int32)), .int ((x1 >>> ((6 : Int32) &&& 31)) &&& (63 : Int32)), .int (x1 >>> ((12 : Int32) &&& 31)), .int ((po_men Q) ((x1 &&& (63 : Int32))).toNatClampNeg), am_ju, am_ju, am_ju], [.int r1], (zl sn sx, X, xr E G Q N A U Y K H tl, q)) oo
  rcases am_if hM with ⟨c26, hM⟩ | ⟨c26, hM⟩
  · refine am_ev.kt 2 41 37 [.ref 1000, .int x1, .int x2, .int (x1 &&& (63 : Int32)), .int ((x1 >>> ((6 : Int32) &&& 31)) &&& (63 : Int32)), .int (x1 >>> ((12 : Int32) &&& 31)), .int ((po_men Q) ((x1 &&& (63 : Int32))).toNatClampNeg), am_ju, am_ju, am_ju] [] (zl sn sx, X, xr E G Q N A U Y K H tl, q) c26 (fun _ _ => rfl) ?_
    refine am_ev.kg 1 (pc' := 42) (lv' := [.ref 1000, .int x1, .int x2, .int (x1 &&& (63 : Int32)), .int ((x1 >>> ((6 : Int32) &&& 31)) &&& (63 : Int32)), .int (x1 >>> ((12 : Int32) &&& 31)), .int ((po_men Q) ((x1 &&& (63 : Int32))).toNatClampNeg), am_ju, am_ju, am_ju]) (st' := [.int (0 : Int32)]) (h' := (zl sn sx, X, xr E G Q N A U Y K H tl, q)) (fun _ _ => rfl) ?_
    refine am_ev.wk (lv' := [.ref 1000, am_ju, .int x2, .int (x1 &&& (63 : Int32)), .int ((x1 >>> ((6 : Int32) &&& 31)) &&& (63 : Int32)), .int (x1 >>> ((12 : Int32) &&& 31)), .int ((po_men Q) ((x1 &&& (63 : Int32))).toNatClampNeg), am_ju, am_ju, am_ju]) (am_lc (Or.inr rfl) (am_lc (Or.inl rfl) (am_lc (Or.inr rfl) (am_lc (Or.inr rfl) (am_lc (Or.inr rfl) (am_lc (Or.inr rfl) (am_lc (Or.inr rfl) (am_lc (Or.inr rfl) (am_lc (Or.inr rfl) (am_lc (Or.inr rfl) am_ln)))))))))) ?_
    exact sj_M_make_42 hx hM
  · refine am_ev.ke 2 41 37 [.ref 1000, .int x1, .int x2, .int (x1 &&& (63 : Int32)), .int ((x1 >>> ((6 : Int32) &&& 31)) &&& (63 : Int32)), .int (x1 >>> ((12 : Int32) &&& 31)), .int ((po_men Q) ((x1 &&& (63 : Int32))).toNatClampNeg), am_ju, am_ju, am_ju] [] (zl sn sx, X, xr E G Q N A U Y K H tl, q) c26 (fun _ _ => rfl) ?_
    refine am_ev.kg 2 (pc' := 42) (lv' := [.ref 1000, .int x1, .int x2, .int (x1 &&& (63 : Int32)), .int ((x1 >>> ((6 : Int32) &&& 31)) &&& (63 : Int32)), .int (x1 >>> ((12 : Int32) &&& 31)), .int ((po_men Q) ((x1 &&& (63 : Int32))).toNatClampNeg), am_ju, am_ju, am_ju]) (st' := [.int (1 : Int32)]) (h' := (zl sn sx, X, xr E G Q N A U Y K H tl, q)) (fun _ _ => rfl) ?_
    refine am_ev.wk (lv' := [.ref 1000, am_ju, .int x2, .int (x1 &&& (63 : Int32)), .int ((x1 >>> ((6 : Int32) &&& 31)) &&& (63 : Int32)), .int (x1 >>> ((12 : Int32) &&& 31)), .int ((po_men Q) ((x1 &&& (63 : Int32))).toNatClampNeg), am_ju, am_ju, am_ju]) (am_lc (Or.inr rfl) (am_lc (Or.inl rfl) (am_lc (Or.inr rfl) (am_lc (Or.inr rfl) (am_lc (Or.inr rfl) (am_lc (Or.inr rfl) (am_lc (Or.inr rfl) (am_lc (Or.inr rfl) (am_lc (Or.inr rfl) (am_lc (Or.inr rfl) am_ln)))))))))) ?_
    exact sj_M_make_42 hx hM
theorem s_M_make {sn : Nat} {sx : Nat → Int32} {X : List am_C} {q : Nat × Nat} {tl : List am_C} {E : ThT} {G : RtT} {Q : PoT} {N : NuT} {A : PaT} {U : UnT} {Y : LiT} {K : KeT} {H : HlT} {x1 : Int32} {x2 : Int32} {oQ : PoT} {oU : UnT} (hM : f_M_make x1 x2 Q U = some (oQ, oU)) : am_cv 4 k_M_make [.ref 1000, .int x1, .int x2] (zl sn sx, X, xr E G Q N A U Y K H tl, q) (.inl none, (zl sn sx, X, xr E G oQ N A oU Y K H tl, q)) := am_cv.of rfl (se_M_make (e := (oQ, oU)) (show y_M_make sn sx X q tl E G N A Y K H _ (oQ, oU) from rfl) hM)
def y_M_kingOf (sn : Nat) (sx : Nat → Int32) (X : List am_C) (q : Nat × Nat) (tl : List am_C) (E : ThT) (G : RtT) (Q : PoT) (N : NuT) (A : PaT) (U : UnT) (Y : LiT) (K : KeT) (H : HlT) (oo : am_O) : Int32 → Prop
  | ov => oo = (.inl (some (.int ov)), (zl sn sx, X, xr E G Q N A U Y K H tl, q))
def x_M_kingOf_2 (sn : Nat) (sx : Nat → Int32) (X : List am_C) (q : Nat × Nat) (tl : List am_C) (E : ThT) (G : RtT) (Q : PoT) (N : NuT) (A : PaT) (U : UnT) (Y : LiT) (K : KeT) (H : HlT) (x1 : Int32) (oo : am_O) : Int32 → Prop
  | ov => oo = (.inl (some (.int ov)), (zl sn sx, X, xr E G Q N A U Y K H tl, q))
theorem sb_M_kingOf_2 {fu : Nat} {sn : Nat} {sx : Nat → Int32} {X : List am_C} {q : Nat × Nat} {tl : List am_C} {E : ThT} {G : RtT} {Q : PoT} {N : NuT} {A : PaT} {U : UnT} {Y : LiT} {K : KeT} {H : HlT} {x1 : Int32} {oo : am_O} {e : Int32} {gg : Int32 → Option (Int32)} (hx : x_M_kingOf_2 sn sx X q tl E G Q N A U Y K H x1 oo e) (hg : ∀ (x2 : Int32), gg x2 = some e → am_ev 1 k_M_kingOf (2, [.ref 1000, .int x1, .int x2], [], (zl sn sx, X, xr E G Q N A U Y K H tl, q)) oo) {x2 : Int32} (hM : b_M_kingOf_2 fu Q x1 gg x2 = some e) : am_ev 1 k_M_kingOf (2, [.ref 1000, .int x1, .int x2], [], (zl sn sx, X, xr E G Q N A U Y K H tl, q)) oo := by
  unfold b_M_kingOf_2 at hM
  obtain ⟨c1, hM⟩ := am_ifn hM
  refine am_ev.kc 4 8 [.ref 1000, .int x1, .int x2] [.int ((po_men Q) (x2).toNatClampNeg)] (zl sn sx, X, xr E G Q N A U Y K H tl, q) c1 (fun _ _ => rfl) ?_
  rcases am_if hM with ⟨c2, hM⟩ | ⟨c2, hM⟩
  · refine am_ev.kt 6 24 18 [.ref 1000, .int x1, .int x2] [] (zl sn sx, X, xr E G Q N A U Y K H tl, q) c2 (fun _ _ => rfl) ?_
    cases hM
    cases hx
    exact am_ev.kf 2 (fun _ _ => rfl)
  · refine am_ev.ke 6 24 18 [.ref 1000, .int x1, .int x2] [] (zl sn sx, X, xr E G Q N A U Y K H tl, q) c2 (fun _ _ => rfl) ?_
    refine am_ev.kg 2 (pc' := 2) (lv' := [.ref 1000, .int x1, .int (x2 + (1 : Int32))]) (st' := []) (h' := (zl sn sx, X, xr E G Q N A U Y K H tl, q)) (fun _ _ => rfl) ?_
    exact hg _ hM
theorem sl_M_kingOf_2 {fu : Nat} {sn : Nat} {sx : Nat → Int32} {X : List am_C} {q : Nat × Nat} {tl : List am_C} {E : ThT} {G : RtT} {Q : PoT} {N : NuT} {A : PaT} {U : UnT} {Y : LiT} {K : KeT} {H : HlT} {x1 : Int32} {oo : am_O} {e : Int32} (hx : x_M_kingOf_2 sn sx X q tl E G Q N A U Y K H x1 oo e) : ∀ (n : Nat) (x2 : Int32), l_M_kingOf_2 fu Q x1 n x2 = some e → am_ev 1 k_M_kingOf (2, [.ref 1000, .int x1, .int x2], [], (zl sn sx, X, xr E G Q N A U Y K H tl, q)) oo
  | 0, _, hM => by have h : (none : Option (Int32)) = some e := hM; cases h
  | n + 1, _, hM => sb_M_kingOf_2 hx (fun _ hM => sl_M_kingOf_2 hx n _ hM) hM
theorem se_M_kingOf {fu : Nat} {sn : Nat} {sx : Nat → Int32} {X : List am_C} {q : Nat × Nat} {tl : List am_C} {E : ThT} {G : RtT} {Q : PoT} {N : NuT} {A : PaT} {U : UnT} {Y : LiT} {K : KeT} {H : HlT} {x1 : Int32} {oo : am_O} {e : Int32} (hx : y_M_kingOf sn sx X q tl E G Q N A U Y K H oo e) (hM : f_M_kingOf fu x1 Q = some e) : am_ev 1 k_M_kingOf (0, [.ref 1000, .int x1, am_ju], [], (zl sn sx, X, xr E G Q N A U Y K H tl, q)) oo := by
  unfold f_M_kingOf at hM
  refine am_ev.kg 2 (pc' := 2) (lv' := [.ref 1000, .int x1, .int (0 : Int32)]) (st' := []) (h' := (zl sn sx, X, xr E G Q N A U Y K H tl, q)) (fun _ _ => rfl) ?_
  refine sl_M_kingOf_2 ?_ _ _ hM
  exact hx
theorem s_M_kingOf {fu : Nat} {sn : Nat} {sx : Nat → Int32} {X : List am_C} {q : Nat × Nat} {tl : List am_C} {E : ThT} {G : RtT} {Q : PoT} {N : NuT} {A : PaT} {U : UnT} {Y : LiT} {K : KeT} {H : HlT} {x1 : Int32} {ov : Int32} (hM : f_M_kingOf fu x1 Q = some ov) : am_cv 2 k_M_kingOf [.ref 1000, .int x1] (zl sn sx, X, xr E G Q N A U Y K H tl, q) (.inl (some (.int ov)), (zl sn sx, X, xr E G Q N A U Y K H tl, q)) := am_cv.of rfl (se_M_kingOf (e := ov) (show y_M_kingOf sn sx X q tl E G Q N A U Y K H _ ov from rfl) hM)
def y_M_firstMan (sn : Nat) (sx : Nat → Int32) (X : List am_C) (q : Nat × Nat) (tl : List am_C) (E : ThT) (G : RtT) (Q : PoT) (N : NuT) (A : PaT) (U : UnT) (Y : LiT) (K : KeT) (H : HlT) (oo : am_O) : Int32 → Prop
  | ov => oo = (.inl (some (.int ov)), (zl sn sx, X, xr E G Q N A U Y K H tl, q))
def x_M_firstMan_8 (sn : Nat) (sx : Nat → Int32) (X : List am_C) (q : Nat × Nat) (tl : List am_C) (E : ThT) (G : RtT) (Q : PoT) (N : NuT) (A : PaT) (U : UnT) (Y : LiT) (K : KeT) (H : HlT) (x2 : Int32) (x3 : Int32) (oo : am_O) : (Int32) → Prop
  | x4 => am_ev 3 k_M_firstMan (35, [.ref 1000, am_ju, am_ju, am_ju, .int x4], [], (zl sn sx, X, xr E G Q N A U Y K H tl, q)) oo
theorem sb_M_firstMan_8 {fu : Nat} {sn : Nat} {sx : Nat → Int32} {X : List am_C} {q : Nat × Nat} {tl : List am_C} {E : ThT} {G : RtT} {Q : PoT} {N : NuT} {A : PaT} {U : UnT} {Y : LiT} {K : KeT} {H : HlT} {x2 : Int32} {x3 : Int32} {oo : am_O} {e : (Int32)} {gg : Int32 → Option ((Int32))} (hx : x_M_firstMan_8 sn sx X q tl E G Q N A U Y K H x2 x3 oo e) (hg : ∀ (x4 : Int32), gg x4 = some e → am_ev 3 k_M_firstMan (8, [.ref 1000, am_ju, .int x2, .int x3, .int x4], [], (zl sn sx, X, xr E G Q N A U Y K H tl, q)) oo) {x4 : Int32} (hM : b_M_firstMan_8 fu Q x2 x3 gg x4 = some e) : am_ev 3 k_M_firstMan (8, [.ref 1000, am_ju, .int x2, .int x3, .int x4], [], (zl sn sx, X, xr E G Q N A U Y K H tl, q)) oo := by
  unfold b_M_firstMan_8 at hM
  rcases am_if hM with ⟨c1, hM⟩ | ⟨c1, hM⟩
  · refine am_ev.kt 2 35 13 [.ref 1000, am_ju, .int x2, .int x3, .int x4] [] (zl sn sx, X, xr E G Q N A U Y K H tl, q) c1 (fun _ _ => rfl) ?_
    refine am_ev.wk (lv' := [.ref 1000, am_ju, am_ju, am_ju, .int x4]) (am_lc (Or.inr rfl) (am_lc (Or.inr rfl) (am_lc (Or.inl rfl) (am_lc (Or.inl rfl) (am_lc (Or.inr rfl) am_ln))))) ?_
    cases hM
    exact hx
  · refine am_ev.ke 2 35 13 [.ref 1000, am_ju, .int x2, .int x3, .int x4] [] (zl sn sx, X, xr E G Q N A U Y K H tl, q) c1 (fun _ _ => rfl) ?_
    obtain ⟨c2, hM⟩ := am_ifn hM
    refine am_ev.kc 4 20 [.ref 1000, am_ju, .int x2, .int x3, .int x4] [.int ((po_men Q) (x4).toNatClampNeg)] (zl sn sx, X, xr E G Q N A U Y K H tl, q) c2 (fun _ _ => rfl) ?_
    rcases am_if hM with ⟨c3, hM⟩ | ⟨c3, hM⟩
    · refine am_ev.kt 1 35 23 [.ref 1000, am_ju, .int x2, .int x3, .int x4] [] (zl sn sx, X, xr E G Q N A U Y K H tl, q) c3 (fun _ _ => rfl) ?_
      refine am_ev.wk (lv' := [.ref 1000, am_ju, am_ju, am_ju, .int x4]) (am_lc (Or.inr rfl) (am_lc (Or.inr rfl) (am_lc (Or.inl rfl) (am_lc (Or.inl rfl) (am_lc (Or.inr rfl) am_ln))))) ?_
      cases hM
      exact hx
    · refine am_ev.ke 1 35 23 [.ref 1000, am_ju, .int x2, .int x3, .int x4] [] (zl sn sx, X, xr E G Q N A U Y K H tl, q) c3 (fun _ _ => rfl) ?_
      obtain ⟨rr, hc, hM⟩ := am_bind hM
      obtain ⟨r2, rfl⟩ : ∃ z, z = rr := ⟨_, rfl⟩
      refine am_ev.kg 3 (pc' := 27) (lv' := [.ref 1000, am_ju, .int x2, .int x3, .int x4]) (st' := [.int x3, .int x2, .int x4]) (h' := (zl sn sx, X, xr E G Q N A U Y K H tl, q)) (fun _ _ => rfl) ?_
      refine am_ev.call rfl rfl rfl ((s_M_step hc).mono (by decide)) ?_
      show am_ev _ k_M_firstMan (30, [.ref 1000, am_ju, .int x2, .int x3, .int x4], [.int r2], (zl sn sx, X, xr E G Q N A U Y K H tl, q)) oo
      refine am_ev.kg 2 (pc' := 8) (lv' := [.ref 1000, am_ju, .int x2, .int x3, .int r2]) (st' := []) (h' := (zl sn sx, X, xr E G Q N A U Y K H tl, q)) (fun _ _ => rfl) ?_
      exact hg _ hM
theorem sl_M_firstMan_8 {fu : Nat} {sn : Nat} {sx : Nat → Int32} {X : List am_C} {q : Nat × Nat} {tl : List am_C} {E : ThT} {G : RtT} {Q : PoT} {N : NuT} {A : PaT} {U : UnT} {Y : LiT} {K : KeT} {H : HlT} {x2 : Int32} {x3 : Int32} {oo : am_O} {e : (Int32)} (hx : x_M_firstMan_8 sn sx X q tl E G Q N A U Y K H x2 x3 oo e) : ∀ (n : Nat) (x4 : Int32), l_M_firstMan_8 fu Q x2 x3 n x4 = some e → am_ev 3 k_M_firstMan (8, [.ref 1000, am_ju, .int x2, .int x3, .int x4], [], (zl sn sx, X, xr E G Q N A U Y K H tl, q)) oo
  | 0, _, hM => by have h : (none : Option ((Int32))) = some e := hM; cases h
  | n + 1, _, hM => sb_M_firstMan_8 hx (fun _ hM => sl_M_firstMan_8 hx n _ hM) hM
theorem sj_M_firstMan_35 {fu : Nat} {sn : Nat} {sx : Nat → Int32} {X : List am_C} {q : Nat × Nat} {tl : List am_C} {E : ThT} {G : RtT} {Q : PoT} {N : NuT} {A : PaT} {U : UnT} {Y : LiT} {K : KeT} {H : HlT} {x4 : Int32} {oo : am_O} {e : Int32} (hx : y_M_firstMan sn sx X q tl E G Q N A U Y K H oo e) (hM : j_M_firstMan_35 fu Q x4 = some e) : am_ev 3 k_M_firstMan (35, [.ref 1000, am_ju, am_ju, am_ju, .int x4], [], (zl sn sx, X, xr E G Q N A U Y K H tl, q)) oo := by
  unfold j_M_firstMan_35 at hM
  rcases am_if hM with ⟨c4, hM⟩ | ⟨c4, hM⟩
  · refine am_ev.kt 2 44 40 [.ref 1000, am_ju, am_ju, am_ju, .int x4] [] (zl sn sx, X, xr E G Q N A U Y K H tl, q) c4 (fun _ _ => rfl) ?_
    obtain ⟨c5, hM⟩ := am_ifn hM
    refine am_ev.kc 4 51 [.ref 1000, am_ju, am_ju, am_ju, .int x4] [.int ((po_men Q) (x4).toNatClampNeg)] (zl sn sx, X, xr E G Q N A U Y K H tl, q) c5 (fun _ _ => rfl) ?_
    cases hM
    cases hx
    exact am_ev.kf 1 (fun _ _ => rfl)
  · refine am_ev.ke 2 44 40 [.ref 1000, am_ju, am_ju, am_ju, .int x4] [] (zl sn sx, X, xr E G Q N A U Y K H tl, q) c4 (fun _ _ => rfl) ?_
    cases hM
    cases hx
    exact am_ev.kf 3 (fun _ _ => rfl)
theorem se_M_firstMan {fu : Nat} {sn : Nat} {sx : Nat → Int32} {X : List am_C} {q : Nat × Nat} {tl : List am_C} {E : ThT} {G : RtT} {Q : PoT} {N : NuT} {A : PaT} {U : UnT} {Y : LiT} {K : KeT} {H : HlT} {x1 : Int32} {x2 : Int32} {x3 : Int32} {oo : am_O} {e : Int32} (hx : y_M_firstMan sn sx X q tl E G Q N A U Y K H oo e) (hM : f_M_firstMan fu x1 x2 x3 Q = some e) : am_ev 3 k_M_firstMan (0, [.ref 1000, .int x1, .int x2, .int x3, am_ju], [], (zl sn sx, X, xr E G Q N A U Y K H tl, q)) oo := by
  unfold f_M_firstMan at hM
  obtain ⟨rr, hc, hM⟩ := am_bind hM
  obtain ⟨r1, rfl⟩ : ∃ z, z = rr := ⟨_, rfl⟩
  refine am_ev.kg 3 (pc' := 3) (lv' := [.ref 1000, .int x1, .int x2, .int x3, am_ju]) (st' := [.int x3, .int x2, .int x1]) (h' := (zl sn sx, X, xr E G Q N A U Y K H tl, q)) (fun _ _ => rfl) ?_
  refine am_ev.call rfl rfl rfl ((s_M_step hc).mono (by decide)) ?_
  show am_ev _ k_M_firstMan (6, [.ref 1000, .int x1, .int x2, .int x3, am_ju], [.int r1], (zl sn sx, X, xr E G Q N A U Y K H tl, q)) oo
  refine am_ev.kg 1 (pc' := 8) (lv' := [.ref 1000, .int x1, .int x2, .int x3, .int r1]) (st' := []) (h' := (zl sn sx, X, xr E G Q N A U Y K H tl, q)) (fun _ _ => rfl) ?_
  refine am_ev.wk (lv' := [.ref 1000, am_ju, .int x2, .int x3, .int r1]) (am_lc (Or.inr rfl) (am_lc (Or.inl rfl) (am_lc (Or.inr rfl) (am_lc (Or.inr rfl) (am_lc (Or.inr rfl) am_ln))))) ?_
  obtain ⟨z, hz, hM⟩ := am_bind hM
  obtain ⟨x4_1, rfl⟩ : ∃ y, y = z := ⟨_, rfl⟩
  refine sl_M_firstMan_8 ?_ _ _ hz
  show am_ev 3 k_M_firstMan (35, [.ref 1000, am_ju, am_ju, am_ju, .int x4_1], [], (zl sn sx, X, xr E G Q N A U Y K H tl, q)) oo
  exact sj_M_firstMan_35 hx hM
theorem s_M_firstMan {fu : Nat} {sn : Nat} {sx : Nat → Int32} {X : List am_C} {q : Nat × Nat} {tl : List am_C} {E : ThT} {G : RtT} {Q : PoT} {N : NuT} {A : PaT} {U : UnT} {Y : LiT} {K : KeT} {H : HlT} {x1 : Int32} {x2 : Int32} {x3 : Int32} {ov : Int32} (hM : f_M_firstMan fu x1 x2 x3 Q = some ov) : am_cv 4 k_M_firstMan [.ref 1000, .int x1, .int x2, .int x3] (zl sn sx, X, xr E G Q N A U Y K H tl, q) (.inl (some (.int ov)), (zl sn sx, X, xr E G Q N A U Y K H tl, q)) := am_cv.of rfl (se_M_firstMan (e := ov) (show y_M_firstMan sn sx X q tl E G Q N A U Y K H _ ov from rfl) hM)
def y_M_isAttacked (sn : Nat) (sx : Nat → Int32) (X : List am_C) (q : Nat × Nat) (tl : List am_C) (E : ThT) (G : RtT) (Q : PoT) (N : NuT) (A : PaT) (U : UnT) (Y : LiT) (K : KeT) (H : HlT) (oo : am_O) : Int32 → Prop
  | ov => oo = (.inl (some (.int ov)), (zl sn sx, X, xr E G Q N A U Y K H tl, q))
def x_M_isAttacked_66 (sn : Nat) (sx : Nat → Int32) (X : List am_C) (q : Nat × Nat) (tl : List am_C) (E : ThT) (G : RtT) (Q : PoT) (N : NuT) (A : PaT) (U : UnT) (Y : LiT) (K : KeT) (H : HlT) (x1 : Int32) (x3 : Int32) (x5 : Int32) (oo : am_O) : ((Unit)) ⊕ (Int32) → Prop
  | (.inl ()) => am_ev 4 k_M_isAttacked (187, [.ref 1000, .int x1, am_ju, .int x3, am_ju, .int x5, am_ju, am_ju, am_ju], [], (zl sn sx, X, xr E G Q N A U Y K H tl, q)) oo
  | .inr ov => oo = (.inl (some (.int ov)), (zl sn sx, X, xr E G Q N A U Y K H tl, q))
def x_M_isAttacked_56 (sn : Nat) (sx : Nat → Int32) (X : List am_C) (q : Nat × Nat) (tl : List am_C) (E : ThT) (G : RtT) (Q : PoT) (N : NuT) (A : PaT) (U : UnT) (Y : LiT) (K : KeT) (H : HlT) (x1 : Int32) (x3 : Int32) (oo : am_O) : Int32 → Prop
  | ov => oo = (.inl (some (.int ov)), (zl sn sx, X, xr E G Q N A U Y K H tl, q))
theorem sj_M_isAttacked_187 {fu : Nat} {sn : Nat} {sx : Nat → Int32} {X : List am_C} {q : Nat × Nat} {tl : List am_C} {E : ThT} {G : RtT} {Q : PoT} {N : NuT} {A : PaT} {U : UnT} {Y : LiT} {K : KeT} {H : HlT} {x1 : Int32} {x3 : Int32} {x5 : Int32} {oo : am_O} {e : Int32} {gg : Int32 → Option (Int32)} (hx : x_M_isAttacked_56 sn sx X q tl E G Q N A U Y K H x1 x3 oo e) (hg : ∀ (x5 : Int32), gg x5 = some e → am_ev 4 k_M_isAttacked (56, [.ref 1000, .int x1, am_ju, .int x3, am_ju, .int x5, am_ju, am_ju, am_ju], [], (zl sn sx, X, xr E G Q N A U Y K H tl, q)) oo) (hM : j_M_isAttacked_187 fu gg Q x1 x3 x5 = some e) : am_ev 4 k_M_isAttacked (187, [.ref 1000, .int x1, am_ju, .int x3, am_ju, .int x5, am_ju, am_ju, am_ju], [], (zl sn sx, X, xr E G Q N A U Y K H tl, q)) oo := by
  unfold j_M_isAttacked_187 at hM
  refine am_ev.kg 2 (pc' := 56) (lv' := [.ref 1000, .int x1, am_ju, .int x3, am_ju, .int (x5 + (1 : Int32)), am_ju, am_ju, am_ju]) (st' := []) (h' := (zl sn sx, X, xr E G Q N A U Y K H tl, q)) (fun _ _ => rfl) ?_
  exact hg _ hM
theorem sj_M_isAttacked_181 {fu : Nat} {sn : Nat} {sx : Nat → Int32} {X : List am_C} {q : Nat × Nat} {tl : List am_C} {E : ThT} {G : RtT} {Q : PoT} {N : NuT} {A : PaT} {U : UnT} {Y : LiT} {K : KeT} {H : HlT} {x1 : Int32} {x3 : Int32} {x5 : Int32} {x6 : Int32} {oo : am_O} {e : ((Unit)) ⊕ (Int32)} {gg : Int32 → Option (((Unit)) ⊕ (Int32))} (hx : x_M_isAttacked_66 sn sx X q tl E G Q N A U Y K H x1 x3 x5 oo e) (hg : ∀ (x6 : Int32), gg x6 = some e → am_ev 4 k_M_isAttacked (66, [.ref 1000, .int x1, am_ju, .int x3, am_ju, .int x5, .int x6, am_ju, am_ju], [], (zl sn sx, X, xr E G Q N A U Y K H tl, q)) oo) (hM : j_M_isAttacked_181 fu gg Q x1 x3 x5 x6 = some e) : am_ev 4 k_M_isAttacked (181, [.ref 1000, .int x1, am_ju, .int x3, am_ju, .int x5, .int x6, am_ju, am_ju], [], (zl sn sx, X, xr E G Q N A U Y K H tl, q)) oo := by
  unfold j_M_isAttacked_181 at hM
  refine am_ev.kg 2 (pc' := 66) (lv' := [.ref 1000, .int x1, am_ju, .int x3, am_ju, .int x5, .int (x6 + (1 : Int32)), am_ju, am_ju]) (st' := []) (h' := (zl sn sx, X, xr E G Q N A U Y K H tl, q)) (fun _ _ => rfl) ?_
  exact hg _ hM
theorem sj_M_isAttacked_155 {fu : Nat} {sn : Nat} {sx : Nat → Int32} {X : List am_C} {q : Nat × Nat} {tl : List am_C} {E : ThT} {G : RtT} {Q : PoT} {N : NuT} {A : PaT} {U : UnT} {Y : LiT} {K : KeT} {H : HlT} {x1 : Int32} {x3 : Int32} {x5 : Int32} {x6 : Int32} {s0 : Int32} {s1 : Int32} {oo : am_O} {e : ((Unit)) ⊕ (Int32)} {gg : Int32 → Option (((Unit)) ⊕ (Int32))} (hx : x_M_isAttacked_66 sn sx X q tl E G Q N A U Y K H x1 x3 x5 oo e) (hg : ∀ (x6 : Int32), gg x6 = some e → am_ev 4 k_M_isAttacked (66, [.ref 1000, .int x1, am_ju, .int x3, am_ju, .int x5, .int x6, am_ju, am_ju], [], (zl sn sx, X, xr E G Q N A U Y K H tl, q)) oo) (hM : j_M_isAttacked_155 fu gg Q x1 x3 x5 x6 s0 s1 = some e) : am_ev 4 k_M_isAttacked (155, [.ref 1000, .int x1, am_ju, .int x3, am_ju, .int x5, .int x6, am_ju, am_ju], [.int s1, .int s0], (zl sn sx, X, xr E G Q N A U Y K H tl, q)) oo := by
  unfold j_M_isAttacked_155 at hM
  rcases am_if hM with ⟨c1, hM⟩ | ⟨c1, hM⟩
  · refine am_ev.kt 3 179 160 [.ref 1000, .int x1, am_ju, .int x3, am_ju, .int x5, .int x6, am_ju, am_ju] [] (zl sn sx, X, xr E G Q N A U Y K H tl, q) c1 (fun _ _ => rfl) ?_
    cases hM
    cases hx
    exact am_ev.kf 2 (fun _ _ => rfl)
  · refine am_ev.ke 3 179 160 [.ref 1000, .int x1, am_ju, .int x3, am_ju, .int x5, .int x6, am_ju, am_ju] [] (zl sn sx, X, xr E G Q N A U Y K H tl, q) c1 (fun _ _ => rfl) ?_
    obtain ⟨rr, hc, hM⟩ := am_bind hM
    obtain ⟨r8, rfl⟩ : ∃ z, z = rr := ⟨_, rfl⟩
    refine am_ev.kg 4 (pc' := 166) (lv' := [.ref 1000, .int x1, am_ju, .int x3, am_ju, .int x5, .int x6, am_ju, am_ju]) (st' := [.int x6, .int x5, .int x1, .ref 1000]) (h' := (zl sn sx, X, xr E G Q N A U Y K H tl, q)) (fun _ _ => rfl) ?_
    refine am_ev.call rfl rfl rfl ((s_M_step hc).mono (by decide)) ?_
    show am_ev _ k_M_isAttacked (169, [.ref 1000, .int x1, am_ju, .int x3, am_ju, .int x5, .int x6, am_ju, am_ju], [.int r8, .ref 1000], (zl sn sx, X, xr E G Q N A U Y K H tl, q)) oo
    obtain ⟨rr, hc, hM⟩ := am_bind hM
    obtain ⟨r9, rfl⟩ : ∃ z, z = rr := ⟨_, rfl⟩
    refine am_ev.kg 3 (pc' := 173) (lv' := [.ref 1000, .int x1, am_ju, .int x3, am_ju, .int x5, .int x6, am_ju, am_ju]) (st' := [.int ((6 : Int32) + x3), .int r8, .ref 1000]) (h' := (zl sn sx, X, xr E G Q N A U Y K H tl, q)) (fun _ _ => rfl) ?_
    refine am_ev.call rfl rfl rfl ((s_M_hasMan hc).mono (by decide)) ?_
    show am_ev _ k_M_isAttacked (176, [.ref 1000, .int x1, am_ju, .int x3, am_ju, .int x5, .int x6, am_ju, am_ju], [.int r9], (zl sn sx, X, xr E G Q N A U Y K H tl, q)) oo
    rcases am_if hM with ⟨c2, hM⟩ | ⟨c2, hM⟩
    · refine am_ev.kt 1 181 179 [.ref 1000, .int x1, am_ju, .int x3, am_ju, .int x5, .int x6, am_ju, am_ju] [] (zl sn sx, X, xr E G Q N A U Y K H tl, q) c2 (fun _ _ => rfl) ?_
      exact sj_M_isAttacked_181 hx hg hM
    · refine am_ev.ke 1 181 179 [.ref 1000, .int x1, am_ju, .int x3, am_ju, .int x5, .int x6, am_ju, am_ju] [] (zl sn sx, X, xr E G Q N A U Y K H tl, q) c2 (fun _ _ => rfl) ?_
      cases hM
      cases hx
      exact am_ev.kf 2 (fun _ _ => rfl)
theorem sj_M_isAttacked_123 {fu : Nat} {sn : Nat} {sx : Nat → Int32} {X : List am_C} {q : Nat × Nat} {tl : List am_C} {E : ThT} {G : RtT} {Q : PoT} {N : NuT} {A : PaT} {U : UnT} {Y : LiT} {K : KeT} {H : HlT} {x1 : Int32} {x3 : Int32} {x5 : Int32} {x6 : Int32} {x7 : Int32} {oo : am_O} {e : ((Unit)) ⊕ (Int32)} {gg : Int32 → Option (((Unit)) ⊕ (Int32))} (hx : x_M_isAttacked_66 sn sx X q tl E G Q N A U Y K H x1 x3 x5 oo e) (hg : ∀ (x6 : Int32), gg x6 = some e → am_ev 4 k_M_isAttacked (66, [.ref 1000, .int x1, am_ju, .int x3, am_ju, .int x5, .int x6, am_ju, am_ju], [], (zl sn sx, X, xr E G Q N A U Y K H tl, q)) oo) (hM : j_M_isAttacked_123 fu gg Q x1 x3 x5 x6 x7 = some e) : am_ev 4 k_M_isAttacked (123, [.ref 1000, .int x1, am_ju, .int x3, am_ju, .int x5, .int x6, .int x7, am_ju], [], (zl sn sx, X, xr E G Q N A U Y K H tl, q)) oo := by
  unfold j_M_isAttacked_123 at hM
  obtain ⟨rr, hc, hM⟩ := am_bind hM
  obtain ⟨r7, rfl⟩ : ∃ z, z = rr := ⟨_, rfl⟩
  refine am_ev.kg 4 (pc' := 129) (lv' := [.ref 1000, .int x1, am_ju, .int x3, am_ju, .int x5, .int x6, .int x7, am_ju]) (st' := [.int x6, .int x5, .int x1, .ref 1000]) (h' := (zl sn sx, X, xr E G Q N A U Y K H tl, q)) (fun _ _ => rfl) ?_
  refine am_ev.call rfl rfl rfl ((s_M_firstMan hc).mono (by decide)) ?_
  show am_ev _ k_M_isAttacked (132, [.ref 1000, .int x1, am_ju, .int x3, am_ju, .int x5, .int x6, .int x7, am_ju], [.int r7], (zl sn sx, X, xr E G Q N A U Y K H tl, q)) oo
  rcases am_if hM with ⟨c3, hM⟩ | ⟨c3, hM⟩
  · refine am_ev.kt 6 179 142 [.ref 1000, .int x1, am_ju, .int x3, am_ju, .int x5, .int x6, .int x7, .int r7] [] (zl sn sx, X, xr E G Q N A U Y K H tl, q) c3 (fun _ _ => rfl) ?_
    cases hM
    cases hx
    exact am_ev.kf 2 (fun _ _ => rfl)
  · refine am_ev.ke 6 179 142 [.ref 1000, .int x1, am_ju, .int x3, am_ju, .int x5, .int x6, .int x7, .int r7] [] (zl sn sx, X, xr E G Q N A U Y K H tl, q) c3 (fun _ _ => rfl) ?_
    rcases am_if hM with ⟨c4, hM⟩ | ⟨c4, hM⟩
    · refine am_ev.kt 4 154 150 [.ref 1000, .int x1, am_ju, .int x3, am_ju, .int x5, .int x6, .int x7, .int r7] [.int r7] (zl sn sx, X, xr E G Q N A U Y K H tl, q) c4 (fun _ _ => rfl) ?_
      refine am_ev.kg 1 (pc' := 155) (lv' := [.ref 1000, .int x1, am_ju, .int x3, am_ju, .int x5, .int x6, .int x7, .int r7]) (st' := [.int (3 : Int32), .int r7]) (h' := (zl sn sx, X, xr E G Q N A U Y K H tl, q)) (fun _ _ => rfl) ?_
      refine am_ev.wk (lv' := [.ref 1000, .int x1, am_ju, .int x3, am_ju, .int x5, .int x6, am_ju, am_ju]) (am_lc (Or.inr rfl) (am_lc (Or.inr rfl) (am_lc (Or.inr rfl) (am_lc (Or.inr rfl) (am_lc (Or.inr rfl) (am_lc (Or.inr rfl) (am_lc (Or.inr rfl) (am_lc (Or.inl rfl) (am_lc (Or.inl rfl) am_ln))))))))) ?_
      exact sj_M_isAttacked_155 hx hg hM
    · refine am_ev.ke 4 154 150 [.ref 1000, .int x1, am_ju, .int x3, am_ju, .int x5, .int x6, .int x7, .int r7] [.int r7] (zl sn sx, X, xr E G Q N A U Y K H tl, q) c4 (fun _ _ => rfl) ?_
      refine am_ev.kg 2 (pc' := 155) (lv' := [.ref 1000, .int x1, am_ju, .int x3, am_ju, .int x5, .int x6, .int x7, .int r7]) (st' := [.int (4 : Int32), .int r7]) (h' := (zl sn sx, X, xr E G Q N A U Y K H tl, q)) (fun _ _ => rfl) ?_
      refine am_ev.wk (lv' := [.ref 1000, .int x1, am_ju, .int x3, am_ju, .int x5, .int x6, am_ju, am_ju]) (am_lc (Or.inr rfl) (am_lc (Or.inr rfl) (am_lc (Or.inr rfl) (am_lc (Or.inr rfl) (am_lc (Or.inr rfl) (am_lc (Or.inr rfl) (am_lc (Or.inr rfl) (am_lc (Or.inl rfl) (am_lc (Or.inl rfl) am_ln))))))))) ?_
      exact sj_M_isAttacked_155 hx hg hM
theorem sj_M_isAttacked_111 {fu : Nat} {sn : Nat} {sx : Nat → Int32} {X : List am_C} {q : Nat × Nat} {tl : List am_C} {E : ThT} {G : RtT} {Q : PoT} {N : NuT} {A : PaT} {U : UnT} {Y : LiT} {K : KeT} {H : HlT} {x1 : Int32} {x3 : Int32} {x5 : Int32} {x6 : Int32} {x7 : Int32} {oo : am_O} {e : ((Unit)) ⊕ (Int32)} {gg : Int32 → Option (((Unit)) ⊕ (Int32))} (hx : x_M_isAttacked_66 sn sx X q tl E G Q N A U Y K H x1 x3 x5 oo e) (hg : ∀ (x6 : Int32), gg x6 = some e → am_ev 4 k_M_isAttacked (66, [.ref 1000, .int x1, am_ju, .int x3, am_ju, .int x5, .int x6, am_ju, am_ju], [], (zl sn sx, X, xr E G Q N A U Y K H tl, q)) oo) (hM : j_M_isAttacked_111 fu gg Q x1 x3 x5 x6 x7 = some e) : am_ev 4 k_M_isAttacked (111, [.ref 1000, .int x1, am_ju, .int x3, am_ju, .int x5, .int x6, .int x7, am_ju], [], (zl sn sx, X, xr E G Q N A U Y K H tl, q)) oo := by
  unfold j_M_isAttacked_111 at hM
  rcases am_if hM with ⟨c5, hM⟩ | ⟨c5, hM⟩
  · refine am_ev.kt 3 123 117 [.ref 1000, .int x1, am_ju, .int x3, am_ju, .int x5, .int x6, .int x7, am_ju] [] (zl sn sx, X, xr E G Q N A U Y K H tl, q) c5 (fun _ _ => rfl) ?_
    exact sj_M_isAttacked_123 hx hg hM
  · refine am_ev.ke 3 123 117 [.ref 1000, .int x1, am_ju, .int x3, am_ju, .int x5, .int x6, .int x7, am_ju] [] (zl sn sx, X, xr E G Q N A U Y K H tl, q) c5 (fun _ _ => rfl) ?_
    rcases am_if hM with ⟨c6, hM⟩ | ⟨c6, hM⟩
    · refine am_ev.kt 3 181 123 [.ref 1000, .int x1, am_ju, .int x3, am_ju, .int x5, .int x6, .int x7, am_ju] [] (zl sn sx, X, xr E G Q N A U Y K H tl, q) c6 (fun _ _ => rfl) ?_
      refine am_ev.wk (lv' := [.ref 1000, .int x1, am_ju, .int x3, am_ju, .int x5, .int x6, am_ju, am_ju]) (am_lc (Or.inr rfl) (am_lc (Or.inr rfl) (am_lc (Or.inr rfl) (am_lc (Or.inr rfl) (am_lc (Or.inr rfl) (am_lc (Or.inr rfl) (am_lc (Or.inr rfl) (am_lc (Or.inl rfl) (am_lc (Or.inr rfl) am_ln))))))))) ?_
      exact sj_M_isAttacked_181 hx hg hM
    · refine am_ev.ke 3 181 123 [.ref 1000, .int x1, am_ju, .int x3, am_ju, .int x5, .int x6, .int x7, am_ju] [] (zl sn sx, X, xr E G Q N A U Y K H tl, q) c6 (fun _ _ => rfl) ?_
      exact sj_M_isAttacked_123 hx hg hM
theorem sb_M_isAttacked_66 {fu : Nat} {sn : Nat} {sx : Nat → Int32} {X : List am_C} {q : Nat × Nat} {tl : List am_C} {E : ThT} {G : RtT} {Q : PoT} {N : NuT} {A : PaT} {U : UnT} {Y : LiT} {K : KeT} {H : HlT} {x1 : Int32} {x3 : Int32} {x5 : Int32} {oo : am_O} {e : ((Unit)) ⊕ (Int32)} {gg : Int32 → Option (((Unit)) ⊕ (Int32))} (hx : x_M_isAttacked_66 sn sx X q tl E G Q N A U Y K H x1 x3 x5 oo e) (hg : ∀ (x6 : Int32), gg x6 = some e → am_ev 4 k_M_isAttacked (66, [.ref 1000, .int x1, am_ju, .int x3, am_ju, .int x5, .int x6, am_ju, am_ju], [], (zl sn sx, X, xr E G Q N A U Y K H tl, q)) oo) {x6 : Int32} (hM : b_M_isAttacked_66 fu Q x1 x3 x5 gg x6 = some e) : am_ev 4 k_M_isAttacked (66, [.ref 1000, .int x1, am_ju, .int x3, am_ju, .int x5, .int x6, am_ju, am_ju], [], (zl sn sx, X, xr E G Q N A U Y K H tl, q)) oo := by
  unfold b_M_isAttacked_66 at hM
  rcases am_if hM with ⟨c7, hM⟩ | ⟨c7, hM⟩
  · refine am_ev.kt 3 187 72 [.ref 1000, .int x1, am_ju, .int x3, am_ju, .int x5, .int x6, am_ju, am_ju] [] (zl sn sx, X, xr E G Q N A U Y K H tl, q) c7 (fun _ _ => rfl) ?_
    refine am_ev.wk (lv' := [.ref 1000, .int x1, am_ju, .int x3, am_ju, .int x5, am_ju, am_ju, am_ju]) (am_lc (Or.inr rfl) (am_lc (Or.inr rfl) (am_lc (Or.inr rfl) (am_lc (Or.inr rfl) (am_lc (Or.inr rfl) (am_lc (Or.inr rfl) (am_lc (Or.inl rfl) (am_lc (Or.inr rfl) (am_lc (Or.inr rfl) am_ln))))))))) ?_
    cases hM
    exact hx
  · refine am_ev.ke 3 187 72 [.ref 1000, .int x1, am_ju, .int x3, am_ju, .int x5, .int x6, am_ju, am_ju] [] (zl sn sx, X, xr E G Q N A U Y K H tl, q) c7 (fun _ _ => rfl) ?_
    rcases am_if hM with ⟨c8, hM⟩ | ⟨c8, hM⟩
    · refine am_ev.kt 11 111 91 [.ref 1000, .int x1, am_ju, .int x3, am_ju, .int x5, .int x6, .int ((x5 * x5) + (x6 * x6)), am_ju] [] (zl sn sx, X, xr E G Q N A U Y K H tl, q) c8 (fun _ _ => rfl) ?_
      exact sj_M_isAttacked_111 hx hg hM
    · refine am_ev.ke 11 111 91 [.ref 1000, .int x1, am_ju, .int x3, am_ju, .int x5, .int x6, .int ((x5 * x5) + (x6 * x6)), am_ju] [] (zl sn sx, X, xr E G Q N A U Y K H tl, q) c8 (fun _ _ => rfl) ?_
      obtain ⟨rr, hc, hM⟩ := am_bind hM
      obtain ⟨r5, rfl⟩ : ∃ z, z = rr := ⟨_, rfl⟩
      refine am_ev.kg 4 (pc' := 97) (lv' := [.ref 1000, .int x1, am_ju, .int x3, am_ju, .int x5, .int x6, .int ((x5 * x5) + (x6 * x6)), am_ju]) (st' := [.int x6, .int x5, .int x1, .ref 1000]) (h' := (zl sn sx, X, xr E G Q N A U Y K H tl, q)) (fun _ _ => rfl) ?_
      refine am_ev.call rfl rfl rfl ((s_M_step hc).mono (by decide)) ?_
      show am_ev _ k_M_isAttacked (100, [.ref 1000, .int x1, am_ju, .int x3, am_ju, .int x5, .int x6, .int ((x5 * x5) + (x6 * x6)), am_ju], [.int r5, .ref 1000], (zl sn sx, X, xr E G Q N A U Y K H tl, q)) oo
      obtain ⟨rr, hc, hM⟩ := am_bind hM
      obtain ⟨r6, rfl⟩ : ∃ z, z = rr := ⟨_, rfl⟩
      refine am_ev.kg 3 (pc' := 103) (lv' := [.ref 1000, .int x1, am_ju, .int x3, am_ju, .int x5, .int x6, .int ((x5 * x5) + (x6 * x6)), am_ju]) (st' := [.int ((2 : Int32) + x3), .int r5, .ref 1000]) (h' := (zl sn sx, X, xr E G Q N A U Y K H tl, q)) (fun _ _ => rfl) ?_
      refine am_ev.call rfl rfl rfl ((s_M_hasMan hc).mono (by decide)) ?_
      show am_ev _ k_M_isAttacked (106, [.ref 1000, .int x1, am_ju, .int x3, am_ju, .int x5, .int x6, .int ((x5 * x5) + (x6 * x6)), am_ju], [.int r6], (zl sn sx, X, xr E G Q N A U Y K H tl, q)) oo
      rcases am_if hM with ⟨c9, hM⟩ | ⟨c9, hM⟩
      · refine am_ev.kt 1 111 109 [.ref 1000, .int x1, am_ju, .int x3, am_ju, .int x5, .int x6, .int ((x5 * x5) + (x6 * x6)), am_ju] [] (zl sn sx, X, xr E G Q N A U Y K H tl, q) c9 (fun _ _ => rfl) ?_
        exact sj_M_isAttacked_111 hx hg hM
      · refine am_ev.ke 1 111 109 [.ref 1000, .int x1, am_ju, .int x3, am_ju, .int x5, .int x6, .int ((x5 * x5) + (x6 * x6)), am_ju] [] (zl sn sx, X, xr E G Q N A U Y K H tl, q) c9 (fun _ _ => rfl) ?_
        cases hM
        cases hx
        exact am_ev.kf 2 (fun _ _ => rfl)
theorem sl_M_isAttacked_66 {fu : Nat} {sn : Nat} {sx : Nat → Int32} {X : List am_C} {q : Nat × Nat} {tl : List am_C} {E : ThT} {G : RtT} {Q : PoT} {N : NuT} {A : PaT} {U : UnT} {Y : LiT} {K : KeT} {H : HlT} {x1 : Int32} {x3 : Int32} {x5 : Int32} {oo : am_O} {e : ((Unit)) ⊕ (Int32)} (hx : x_M_isAttacked_66 sn sx X q tl E G Q N A U Y K H x1 x3 x5 oo e) : ∀ (n : Nat) (x6 : Int32), l_M_isAttacked_66 fu Q x1 x3 x5 n x6 = some e → am_ev 4 k_M_isAttacked (66, [.ref 1000, .int x1, am_ju, .int x3, am_ju, .int x5, .int x6, am_ju, am_ju], [], (zl sn sx, X, xr E G Q N A U Y K H tl, q)) oo
  | 0, _, hM => by have h : (none : Option (((Unit)) ⊕ (Int32))) = some e := hM; cases h
  | n + 1, _, hM => sb_M_isAttacked_66 hx (fun _ hM => sl_M_isAttacked_66 hx n _ hM) hM
theorem sb_M_isAttacked_56 {fu : Nat} {sn : Nat} {sx : Nat → Int32} {X : List am_C} {q : Nat × Nat} {tl : List am_C} {E : ThT} {G : RtT} {Q : PoT} {N : NuT} {A : PaT} {U : UnT} {Y : LiT} {K : KeT} {H : HlT} {x1 : Int32} {x3 : Int32} {oo : am_O} {e : Int32} {gg : Int32 → Option (Int32)} (hx : x_M_isAttacked_56 sn sx X q tl E G Q N A U Y K H x1 x3 oo e) (hg : ∀ (x5 : Int32), gg x5 = some e → am_ev 4 k_M_isAttacked (56, [.ref 1000, .int x1, am_ju, .int x3, am_ju, .int x5, am_ju, am_ju, am_ju], [], (zl sn sx, X, xr E G Q N A U Y K H tl, q)) oo) {x5 : Int32} (hM : b_M_isAttacked_56 fu Q x1 x3 gg x5 = some e) : am_ev 4 k_M_isAttacked (56, [.ref 1000, .int x1, am_ju, .int x3, am_ju, .int x5, am_ju, am_ju, am_ju], [], (zl sn sx, X, xr E G Q N A U Y K H tl, q)) oo := by
  unfold b_M_isAttacked_56 at hM
  rcases am_if hM with ⟨c10, hM⟩ | ⟨c10, hM⟩
  · refine am_ev.kt 3 193 62 [.ref 1000, .int x1, am_ju, .int x3, am_ju, .int x5, am_ju, am_ju, am_ju] [] (zl sn sx, X, xr E G Q N A U Y K H tl, q) c10 (fun _ _ => rfl) ?_
    cases hM
    cases hx
    exact am_ev.kf 2 (fun _ _ => rfl)
  · refine am_ev.ke 3 193 62 [.ref 1000, .int x1, am_ju, .int x3, am_ju, .int x5, am_ju, am_ju, am_ju] [] (zl sn sx, X, xr E G Q N A U Y K H tl, q) c10 (fun _ _ => rfl) ?_
    refine am_ev.kg 2 (pc' := 66) (lv' := [.ref 1000, .int x1, am_ju, .int x3, am_ju, .int x5, .int (-2 : Int32), am_ju, am_ju]) (st' := []) (h' := (zl sn sx, X, xr E G Q N A U Y K H tl, q)) (fun _ _ => rfl) ?_
    obtain ⟨z, hz, hM⟩ := am_bind hM
    rcases z with z | z
    ·
      refine sl_M_isAttacked_66 ?_ _ _ hz
      show am_ev 4 k_M_isAttacked (187, [.ref 1000, .int x1, am_ju, .int x3, am_ju, .int x5, am_ju, am_ju, am_ju], [], (zl sn sx, X, xr E G Q N A U Y K H tl, q)) oo
      exact sj_M_isAttacked_187 hx hg hM
    ·
      cases hM
      refine sl_M_isAttacked_66 ?_ _ _ hz
      exact hx
theorem sl_M_isAttacked_56 {fu : Nat} {sn : Nat} {sx : Nat → Int32} {X : List am_C} {q : Nat × Nat} {tl : List am_C} {E : ThT} {G : RtT} {Q : PoT} {N : NuT} {A : PaT} {U : UnT} {Y : LiT} {K : KeT} {H : HlT} {x1 : Int32} {x3 : Int32} {oo : am_O} {e : Int32} (hx : x_M_isAttacked_56 sn sx X q tl E G Q N A U Y K H x1 x3 oo e) : ∀ (n : Nat) (x5 : Int32), l_M_isAttacked_56 fu Q x1 x3 n x5 = some e → am_ev 4 k_M_isAttacked (56, [.ref 1000, .int x1, am_ju, .int x3, am_ju, .int x5, am_ju, am_ju, am_ju], [], (zl sn sx, X, xr E G Q N A U Y K H tl, q)) oo
  | 0, _, hM => by have h : (none : Option (Int32)) = some e := hM; cases h
  | n + 1, _, hM => sb_M_isAttacked_56 hx (fun _ hM => sl_M_isAttacked_56 hx n _ hM) hM
theorem sj_M_isAttacked_14 {fu : Nat} {sn : Nat} {sx : Nat → Int32} {X : List am_C} {q : Nat × Nat} {tl : List am_C} {E : ThT} {G : RtT} {Q : PoT} {N : NuT} {A : PaT} {U : UnT} {Y : LiT} {K : KeT} {H : HlT} {x1 : Int32} {x3 : Int32} {s0 : Int32} {oo : am_O} {e : Int32} (hx : y_M_isAttacked sn sx X q tl E G Q N A U Y K H oo e) (hM : j_M_isAttacked_14 fu Q x1 x3 s0 = some e) : am_ev 4 k_M_isAttacked (14, [.ref 1000, .int x1, am_ju, .int x3, am_ju, am_ju, am_ju, am_ju, am_ju], [.int s0], (zl sn sx, X, xr E G Q N A U Y K H tl, q)) oo := by
  unfold j_M_isAttacked_14 at hM
  obtain ⟨rr, hc, hM⟩ := am_bind hM
  obtain ⟨r1, rfl⟩ : ∃ z, z = rr := ⟨_, rfl⟩
  refine am_ev.kg 5 (pc' := 21) (lv' := [.ref 1000, .int x1, am_ju, .int x3, .int s0, am_ju, am_ju, am_ju, am_ju]) (st' := [.int s0, .int (-1 : Int32), .int x1, .ref 1000]) (h' := (zl sn sx, X, xr E G Q N A U Y K H tl, q)) (fun _ _ => rfl) ?_
  refine am_ev.call rfl rfl rfl ((s_M_step hc).mono (by decide)) ?_
  show am_ev _ k_M_isAttacked (24, [.ref 1000, .int x1, am_ju, .int x3, .int s0, am_ju, am_ju, am_ju, am_ju], [.int r1, .ref 1000], (zl sn sx, X, xr E G Q N A U Y K H tl, q)) oo
  obtain ⟨rr, hc, hM⟩ := am_bind hM
  obtain ⟨r2, rfl⟩ : ∃ z, z = rr := ⟨_, rfl⟩
  refine am_ev.kg 3 (pc' := 27) (lv' := [.ref 1000, .int x1, am_ju, .int x3, .int s0, am_ju, am_ju, am_ju, am_ju]) (st' := [.int ((1 : Int32) + x3), .int r1, .ref 1000]) (h' := (zl sn sx, X, xr E G Q N A U Y K H tl, q)) (fun _ _ => rfl) ?_
  refine am_ev.call rfl rfl rfl ((s_M_hasMan hc).mono (by decide)) ?_
  show am_ev _ k_M_isAttacked (30, [.ref 1000, .int x1, am_ju, .int x3, .int s0, am_ju, am_ju, am_ju, am_ju], [.int r2], (zl sn sx, X, xr E G Q N A U Y K H tl, q)) oo
  rcases am_if hM with ⟨c11, hM⟩ | ⟨c11, hM⟩
  · refine am_ev.kt 1 50 33 [.ref 1000, .int x1, am_ju, .int x3, .int s0, am_ju, am_ju, am_ju, am_ju] [] (zl sn sx, X, xr E G Q N A U Y K H tl, q) c11 (fun _ _ => rfl) ?_
    cases hM
    cases hx
    exact am_ev.kf 2 (fun _ _ => rfl)
  · refine am_ev.ke 1 50 33 [.ref 1000, .int x1, am_ju, .int x3, .int s0, am_ju, am_ju, am_ju, am_ju] [] (zl sn sx, X, xr E G Q N A U Y K H tl, q) c11 (fun _ _ => rfl) ?_
    obtain ⟨rr, hc, hM⟩ := am_bind hM
    obtain ⟨r3, rfl⟩ : ∃ z, z = rr := ⟨_, rfl⟩
    refine am_ev.kg 4 (pc' := 38) (lv' := [.ref 1000, .int x1, am_ju, .int x3, .int s0, am_ju, am_ju, am_ju, am_ju]) (st' := [.int s0, .int (1 : Int32), .int x1, .ref 1000]) (h' := (zl sn sx, X, xr E G Q N A U Y K H tl, q)) (fun _ _ => rfl) ?_
    refine am_ev.call rfl rfl rfl ((s_M_step hc).mono (by decide)) ?_
    show am_ev _ k_M_isAttacked (41, [.ref 1000, .int x1, am_ju, .int x3, .int s0, am_ju, am_ju, am_ju, am_ju], [.int r3, .ref 1000], (zl sn sx, X, xr E G Q N A U Y K H tl, q)) oo
    obtain ⟨rr, hc, hM⟩ := am_bind hM
    obtain ⟨r4, rfl⟩ : ∃ z, z = rr := ⟨_, rfl⟩
    refine am_ev.kg 3 (pc' := 44) (lv' := [.ref 1000, .int x1, am_ju, .int x3, .int s0, am_ju, am_ju, am_ju, am_ju]) (st' := [.int ((1 : Int32) + x3), .int r3, .ref 1000]) (h' := (zl sn sx, X, xr E G Q N A U Y K H tl, q)) (fun _ _ => rfl) ?_
    refine am_ev.call rfl rfl rfl ((s_M_hasMan hc).mono (by decide)) ?_
    show am_ev _ k_M_isAttacked (47, [.ref 1000, .int x1, am_ju, .int x3, .int s0, am_ju, am_ju, am_ju, am_ju], [.int r4], (zl sn sx, X, xr E G Q N A U Y K H tl, q)) oo
    rcases am_if hM with ⟨c12, hM⟩ | ⟨c12, hM⟩
    · refine am_ev.kt 1 52 50 [.ref 1000, .int x1, am_ju, .int x3, .int s0, am_ju, am_ju, am_ju, am_ju] [] (zl sn sx, X, xr E G Q N A U Y K H tl, q) c12 (fun _ _ => rfl) ?_
      refine am_ev.kg 2 (pc' := 56) (lv' := [.ref 1000, .int x1, am_ju, .int x3, .int s0, .int (-2 : Int32), am_ju, am_ju, am_ju]) (st' := []) (h' := (zl sn sx, X, xr E G Q N A U Y K H tl, q)) (fun _ _ => rfl) ?_
      refine am_ev.wk (lv' := [.ref 1000, .int x1, am_ju, .int x3, am_ju, .int (-2 : Int32), am_ju, am_ju, am_ju]) (am_lc (Or.inr rfl) (am_lc (Or.inr rfl) (am_lc (Or.inr rfl) (am_lc (Or.inr rfl) (am_lc (Or.inl rfl) (am_lc (Or.inr rfl) (am_lc (Or.inr rfl) (am_lc (Or.inr rfl) (am_lc (Or.inr rfl) am_ln))))))))) ?_
      refine sl_M_isAttacked_56 ?_ _ _ hM
      exact hx
    · refine am_ev.ke 1 52 50 [.ref 1000, .int x1, am_ju, .int x3, .int s0, am_ju, am_ju, am_ju, am_ju] [] (zl sn sx, X, xr E G Q N A U Y K H tl, q) c12 (fun _ _ => rfl) ?_
      cases hM
      cases hx
      exact am_ev.kf 2 (fun _ _ => rfl)
theorem se_M_isAttacked {fu : Nat} {sn : Nat} {sx : Nat → Int32} {X : List am_C} {q : Nat × Nat} {tl : List am_C} {E : ThT} {G : RtT} {Q : PoT} {N : NuT} {A : PaT} {U : UnT} {Y : LiT} {K : KeT} {H : HlT} {x1 : Int32} {x2 : Int32} {oo : am_O} {e : Int32} (hx : y_M_isAttacked sn sx X q tl E G Q N A U Y K H oo e) (hM : f_M_isAttacked fu x1 x2 Q = some e) : am_ev 4 k_M_isAttacked (0, [.ref 1000, .int x1, .int x2, am_ju, am_ju, am_ju, am_ju, am_ju, am_ju], [], (zl sn sx, X, xr E G Q N A U Y K H tl, q)) oo := by
  unfold f_M_isAttacked at hM
  rcases am_if hM with ⟨c13, hM⟩ | ⟨c13, hM⟩
  · refine am_ev.kt 6 13 9 [.ref 1000, .int x1, .int x2, .int ((8 : Int32) * x2), am_ju, am_ju, am_ju, am_ju, am_ju] [] (zl sn sx, X, xr E G Q N A U Y K H tl, q) c13 (fun _ _ => rfl) ?_
    refine am_ev.kg 1 (pc' := 14) (lv' := [.ref 1000, .int x1, .int x2, .int ((8 : Int32) * x2), am_ju, am_ju, am_ju, am_ju, am_ju]) (st' := [.int (1 : Int32)]) (h' := (zl sn sx, X, xr E G Q N A U Y K H tl, q)) (fun _ _ => rfl) ?_
    refine am_ev.wk (lv' := [.ref 1000, .int x1, am_ju, .int ((8 : Int32) * x2), am_ju, am_ju, am_ju, am_ju, am_ju]) (am_lc (Or.inr rfl) (am_lc (Or.inr rfl) (am_lc (Or.inl rfl) (am_lc (Or.inr rfl) (am_lc (Or.inr rfl) (am_lc (Or.inr rfl) (am_lc (Or.inr rfl) (am_lc (Or.inr rfl) (am_lc (Or.inr rfl) am_ln))))))))) ?_
    exact sj_M_isAttacked_14 hx hM
  · refine am_ev.ke 6 13 9 [.ref 1000, .int x1, .int x2, .int ((8 : Int32) * x2), am_ju, am_ju, am_ju, am_ju, am_ju] [] (zl sn sx, X, xr E G Q N A U Y K H tl, q) c13 (fun _ _ => rfl) ?_
    refine am_ev.kg 2 (pc' := 14) (lv' := [.ref 1000, .int x1, .int x2, .int ((8 : Int32) * x2), am_ju, am_ju, am_ju, am_ju, am_ju]) (st' := [.int (-1 : Int32)]) (h' := (zl sn sx, X, xr E G Q N A U Y K H tl, q)) (fun _ _ => rfl) ?_
    refine am_ev.wk (lv' := [.ref 1000, .int x1, am_ju, .int ((8 : Int32) * x2), am_ju, am_ju, am_ju, am_ju, am_ju]) (am_lc (Or.inr rfl) (am_lc (Or.inr rfl) (am_lc (Or.inl rfl) (am_lc (Or.inr rfl) (am_lc (Or.inr rfl) (am_lc (Or.inr rfl) (am_lc (Or.inr rfl) (am_lc (Or.inr rfl) (am_lc (Or.inr rfl) am_ln))))))))) ?_
    exact sj_M_isAttacked_14 hx hM
theorem s_M_isAttacked {fu : Nat} {sn : Nat} {sx : Nat → Int32} {X : List am_C} {q : Nat × Nat} {tl : List am_C} {E : ThT} {G : RtT} {Q : PoT} {N : NuT} {A : PaT} {U : UnT} {Y : LiT} {K : KeT} {H : HlT} {x1 : Int32} {x2 : Int32} {ov : Int32} (hM : f_M_isAttacked fu x1 x2 Q = some ov) : am_cv 5 k_M_isAttacked [.ref 1000, .int x1, .int x2] (zl sn sx, X, xr E G Q N A U Y K H tl, q) (.inl (some (.int ov)), (zl sn sx, X, xr E G Q N A U Y K H tl, q)) := am_cv.of rfl (se_M_isAttacked (e := ov) (show y_M_isAttacked sn sx X q tl E G Q N A U Y K H _ ov from rfl) hM)
def y_M_inCheck (sn : Nat) (sx : Nat → Int32) (X : List am_C) (q : Nat × Nat) (tl : List am_C) (E : ThT) (G : RtT) (Q : PoT) (N : NuT) (A : PaT) (U : UnT) (Y : LiT) (K : KeT) (H : HlT) (oo : am_O) : Int32 → Prop
  | ov => oo = (.inl (some (.int ov)), (zl sn sx, X, xr E G Q N A U Y K H tl, q))
theorem se_M_inCheck {fu : Nat} {sn : Nat} {sx : Nat → Int32} {X : List am_C} {q : Nat × Nat} {tl : List am_C} {E : ThT} {G : RtT} {Q : PoT} {N : NuT} {A : PaT} {U : UnT} {Y : LiT} {K : KeT} {H : HlT} {x1 : Int32} {oo : am_O} {e : Int32} (hx : y_M_inCheck sn sx X q tl E G Q N A U Y K H oo e) (hM : f_M_inCheck fu x1 Q = some e) : am_ev 5 k_M_inCheck (0, [.ref 1000, .int x1], [], (zl sn sx, X, xr E G Q N A U Y K H tl, q)) oo := by
  unfold f_M_inCheck at hM
  obtain ⟨rr, hc, hM⟩ := am_bind hM
  obtain ⟨r1, rfl⟩ : ∃ z, z = rr := ⟨_, rfl⟩
  refine am_ev.kg 3 (pc' := 3) (lv' := [.ref 1000, .int x1]) (st' := [.int x1, .ref 1000, .ref 1000]) (h' := (zl sn sx, X, xr E G Q N A U Y K H tl, q)) (fun _ _ => rfl) ?_
  refine am_ev.call rfl rfl rfl ((s_M_kingOf hc).mono (by decide)) ?_
  show am_ev _ k_M_inCheck (6, [.ref 1000, .int x1], [.int r1, .ref 1000], (zl sn sx, X, xr E G Q N A U Y K H tl, q)) oo
  obtain ⟨rr, hc, hM⟩ := am_bind hM
  obtain ⟨r2, rfl⟩ : ∃ z, z = rr := ⟨_, rfl⟩
  refine am_ev.kg 3 (pc' := 9) (lv' := [.ref 1000, .int x1]) (st' := [.int ((1 : Int32) - x1), .int r1, .ref 1000]) (h' := (zl sn sx, X, xr E G Q N A U Y K H tl, q)) (fun _ _ => rfl) ?_
  refine am_ev.call rfl rfl rfl ((s_M_isAttacked hc).mono (by decide)) ?_
  show am_ev _ k_M_inCheck (12, [.ref 1000, .int x1], [.int r2], (zl sn sx, X, xr E G Q N A U Y K H tl, q)) oo
  cases hM
  cases hx
  exact am_ev.kf 1 (fun _ _ => rfl)
theorem s_M_inCheck {fu : Nat} {sn : Nat} {sx : Nat → Int32} {X : List am_C} {q : Nat × Nat} {tl : List am_C} {E : ThT} {G : RtT} {Q : PoT} {N : NuT} {A : PaT} {U : UnT} {Y : LiT} {K : KeT} {H : HlT} {x1 : Int32} {ov : Int32} (hM : f_M_inCheck fu x1 Q = some ov) : am_cv 6 k_M_inCheck [.ref 1000, .int x1] (zl sn sx, X, xr E G Q N A U Y K H tl, q) (.inl (some (.int ov)), (zl sn sx, X, xr E G Q N A U Y K H tl, q)) := am_cv.of rfl (se_M_inCheck (e := ov) (show y_M_inCheck sn sx X q tl E G Q N A U Y K H _ ov from rfl) hM)
