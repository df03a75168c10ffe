def y_M_move (sn : Nat) (sx : Nat → Int32) (X : List am_C) (q : Nat × Nat) (tl : List am_C) (G : RtT) (N : NuT) (A : PaT) (K : KeT) (H : HlT) (oo : am_O) : Int32 × ThT × PoT × UnT × LiT → Prop
  | (ov, oE, oQ, oU, oY) => oo = (.inl (some (.int ov)), (zl sn sx, X, xr oE G oQ N A oU oY K H tl, q))
theorem sj_M_move_21 {fu : Nat} {sn : Nat} {sx : Nat → Int32} {X : List am_C} {q : Nat × Nat} {tl : List am_C} {E : ThT} {G : RtT} {Q : PoT} {N : NuT} {A : PaT} {U : UnT} {Y : LiT} {K : KeT} {H : HlT} {x1 : Int32} {s1 : Int32} {oo : am_O} {e : Int32 × ThT × PoT × UnT × LiT} (hx : y_M_move sn sx X q tl G N A K H oo e) (hM : j_M_move_21 fu E Q U Y x1 s1 = some e) : am_ev 9 k_M_move (21, [.ref 1000, .int x1, am_ju], [.int s1, .ref 1000], (zl sn sx, X, xr E G Q N A U Y K H tl, q)) oo := by
  unfold j_M_move_21 at hM
  rcases am_if hM with ⟨c1, hM⟩ | ⟨c1, hM⟩
  · refine am_ev.kt 4 35 31 [.ref 1000, .int x1, am_ju] [] (zl sn sx, X, xr s1 G Q N A U Y K H tl, q) c1 (fun _ _ => rfl) ?_
    obtain ⟨c2, hM⟩ := am_ifn hM
    refine am_ev.kc 4 41 [.ref 1000, .int x1, am_ju] [.int ((li_lists Y) (x1).toNatClampNeg)] (zl sn sx, X, xr s1 G Q N A U Y K H tl, q) c2 (fun _ _ => rfl) ?_
    cases hM
    cases hx
    exact am_ev.kf 1 (fun _ _ => rfl)
  · refine am_ev.ke 4 35 31 [.ref 1000, .int x1, am_ju] [] (zl sn sx, X, xr s1 G Q N A U Y K H tl, q) c1 (fun _ _ => rfl) ?_
    cases hM
    cases hx
    exact am_ev.kf 3 (fun _ _ => rfl)
theorem sj_M_move_16 {fu : Nat} {sn : Nat} {sx : Nat → Int32} {X : List am_C} {q : Nat × Nat} {tl : List am_C} {E : ThT} {G : RtT} {Q : PoT} {N : NuT} {A : PaT} {U : UnT} {Y : LiT} {K : KeT} {H : HlT} {x1 : Int32} {oo : am_O} {e : Int32 × ThT × PoT × UnT × LiT} (hx : y_M_move sn sx X q tl G N A K H oo e) (hM : j_M_move_16 fu E Q U Y x1 = some e) : am_ev 9 k_M_move (16, [.ref 1000, .int x1, am_ju], [.ref 1000], (zl sn sx, X, xr E G Q N A U Y K H tl, q)) oo := by
  unfold j_M_move_16 at hM
  refine am_ev.kg 2 (pc' := 21) (lv' := [.ref 1000, .int x1, am_ju]) (st' := [.int (1 : Int32), .ref 1000]) (h' := (zl sn sx, X, xr E G Q N A U Y K H tl, q)) (fun _ _ => rfl) ?_
  exact sj_M_move_21 hx hM
theorem se_M_move {fu : Nat} {sn : Nat} {sx : Nat → Int32} {X : List am_C} {q : Nat × Nat} {tl : List am_C} {E : ThT} {G : RtT} {Q : PoT} {N : NuT} {A : PaT} {U : UnT} {Y : LiT} {K : KeT} {H : HlT} {x1 : Int32} {oo : am_O} {e : Int32 × ThT × PoT × UnT × LiT} (hx : y_M_move sn sx X q tl G N A K H oo e) (hM : f_M_move fu x1 E Q U Y = some e) : am_ev 9 k_M_move (0, [.ref 1000, .int x1, am_ju], [], (zl sn sx, X, xr E G Q N A U Y K H tl, q)) oo := by
  unfold f_M_move at hM
  obtain ⟨rr, hc, hM⟩ := am_bind hM
  obtain ⟨r1, qg2, ug3, yg4⟩ := rr
  refine am_ev.kg 2 (pc' := 2) (lv' := [.ref 1000, .int x1, am_ju]) (st' := [.int (0 : Int32), .ref 1000]) (h' := (zl sn sx, X, xr E G Q N A U Y K H tl, q)) (fun _ _ => rfl) ?_
  refine am_ev.call rfl rfl rfl ((s_M_list hc).mono (by decide)) ?_
  show am_ev _ k_M_move (5, [.ref 1000, .int x1, am_ju], [.int r1], (zl sn sx, X, xr E G qg2 N A ug3 yg4 K H tl, q)) oo
  rcases am_if hM with ⟨c3, hM⟩ | ⟨c3, hM⟩
  · refine am_ev.kt 4 16 11 [.ref 1000, .int x1, .int r1] [.ref 1000] (zl sn sx, X, xr E G qg2 N A ug3 yg4 K H tl, q) c3 (fun _ _ => rfl) ?_
    refine am_ev.wk (lv' := [.ref 1000, .int x1, am_ju]) (am_lc (Or.inr rfl) (am_lc (Or.inr rfl) (am_lc (Or.inl rfl) am_ln))) ?_
    exact sj_M_move_16 hx hM
  · refine am_ev.ke 4 16 11 [.ref 1000, .int x1, .int r1] [.ref 1000] (zl sn sx, X, xr E G qg2 N A ug3 yg4 K H tl, q) c3 (fun _ _ => rfl) ?_
    rcases am_if hM with ⟨c4, hM⟩ | ⟨c4, hM⟩
    · refine am_ev.kt 3 20 16 [.ref 1000, .int x1, .int r1] [.ref 1000] (zl sn sx, X, xr E G qg2 N A ug3 yg4 K H tl, q) c4 (fun _ _ => rfl) ?_
      refine am_ev.kg 1 (pc' := 21) (lv' := [.ref 1000, .int x1, .int r1]) (st' := [.int (0 : Int32), .ref 1000]) (h' := (zl sn sx, X, xr E G qg2 N A ug3 yg4 K H tl, q)) (fun _ _ => rfl) ?_
      refine am_ev.wk (lv' := [.ref 1000, .int x1, am_ju]) (am_lc (Or.inr rfl) (am_lc (Or.inr rfl) (am_lc (Or.inl rfl) am_ln))) ?_
      exact sj_M_move_21 hx hM
    · refine am_ev.ke 3 20 16 [.ref 1000, .int x1, .int r1] [.ref 1000] (zl sn sx, X, xr E G qg2 N A ug3 yg4 K H tl, q) c4 (fun _ _ => rfl) ?_
      refine am_ev.wk (lv' := [.ref 1000, .int x1, am_ju]) (am_lc (Or.inr rfl) (am_lc (Or.inr rfl) (am_lc (Or.inl rfl) am_ln))) ?_
      exact sj_M_move_16 hx hM
theorem s_M_move {fu : Nat} {sn : Nat} {sx : Nat → Int32} {X : List am_C} {q : Nat × Nat} {tl : List am_C} {E : ThT} {G : RtT} {Q : PoT} {N : NuT} {A : PaT} {U : UnT} {Y : LiT} {K : KeT} {H : HlT} {x1 : Int32} {ov : Int32} {oE : ThT} {oQ : PoT} {oU : UnT} {oY : LiT} (hM : f_M_move fu x1 E Q U Y = some (ov, oE, oQ, oU, oY)) : am_cv 10 k_M_move [.ref 1000, .int x1] (zl sn sx, X, xr E G Q N A U Y K H tl, q) (.inl (some (.int ov)), (zl sn sx, X, xr oE G oQ N A oU oY K H tl, q)) := am_cv.of rfl (se_M_move (e := (ov, oE, oQ, oU, oY)) (show y_M_move sn sx X q tl G N A K H _ (ov, oE, oQ, oU, oY) from rfl) hM)
def y_M_enter (sn : Nat) (sx : Nat → Int32) (X : List am_C) (q : Nat × Nat) (tl : List am_C) (E : ThT) (G : RtT) (Q : PoT) (N : NuT) (U : UnT) (Y : LiT) (H : HlT) (oo : am_O) : PaT × KeT → Prop
  | (oA, oK) => oo = (.inl none, (zl sn sx, X, xr E G Q N oA U Y oK H tl, q))
def x_M_enter_2 (sn : Nat) (sx : Nat → Int32) (X : List am_C) (q : Nat × Nat) (tl : List am_C) (E : ThT) (G : RtT) (Q : PoT) (N : NuT) (U : UnT) (Y : LiT) (K : KeT) (H : HlT) (oo : am_O) : (PaT) → Prop
  | A => am_ev 1 k_M_enter (34, [.ref 1000, am_ju], [], (zl sn sx, X, xr E G Q N A U Y K H tl, q)) oo
theorem sb_M_enter_2 {fu : Nat} {sn : Nat} {sx : Nat → Int32} {X : List am_C} {q : Nat × Nat} {tl : List am_C} {E : ThT} {G : RtT} {Q : PoT} {N : NuT} {U : UnT} {Y : LiT} {K : KeT} {H : HlT} {oo : am_O} {e : (PaT)} {gg : Int32 → PaT → Option ((PaT))} (hx : x_M_enter_2 sn sx X q tl E G Q N U Y K H oo e) (hg : ∀ (x1 : Int32) (A : PaT), gg x1 A = some e → am_ev 1 k_M_enter (2, [.ref 1000, .int x1], [], (zl sn sx, X, xr E G Q N A U Y K H tl, q)) oo) {x1 : Int32} {A : PaT} (hM : b_M_enter_2 fu Q K gg x1 A = some e) : am_ev 1 k_M_enter (2, [.ref 1000, .int x1], [], (zl sn sx, X, xr E G Q N A U Y K H tl, q)) oo := by
  unfold b_M_enter_2 at hM
  rcases am_if hM with ⟨c1, hM⟩ | ⟨c1, hM⟩
  · refine am_ev.kt 3 34 8 [.ref 1000, .int x1] [] (zl sn sx, X, xr E G Q N A U Y K H tl, q) c1 (fun _ _ => rfl) ?_
    refine am_ev.wk (lv' := [.ref 1000, am_ju]) (am_lc (Or.inr rfl) (am_lc (Or.inl rfl) am_ln)) ?_
    cases hM
    exact hx
  · refine am_ev.ke 3 34 8 [.ref 1000, .int x1] [] (zl sn sx, X, xr E G Q N A U Y K H tl, q) c1 (fun _ _ => rfl) ?_
    obtain ⟨c2, hM⟩ := am_ifn hM
    refine am_ev.kc 12 27 [.ref 1000, .int x1] [.int ((po_men Q) (x1).toNatClampNeg), .int (((64 : Int32) * (pa_plies A)) + x1), .ref 1003] (zl sn sx, X, xr E G Q N A U Y K H tl, q) c2 (fun _ _ => rfl) ?_
    obtain ⟨c3, hM⟩ := am_ifn hM
    refine am_ev.kc 1 28 [.ref 1000, .int x1] [] (zl sn sx, X, xr E G Q N ((upd (pa_pastMen A) ((((64 : Int32) * (pa_plies A)) + x1)).toNatClampNeg ((po_men Q) (x1).toNatClampNeg)), (pa_pastSide A), (pa_pastRights A), (pa_pastPassed A), (pa_plies A)) U Y K H tl, q) c3 (fun _ _ => rfl) ?_
    refine am_ev.kg 2 (pc' := 2) (lv' := [.ref 1000, .int (x1 + (1 : Int32))]) (st' := []) (h' := (zl sn sx, X, xr E G Q N ((upd (pa_pastMen A) ((((64 : Int32) * (pa_plies A)) + x1)).toNatClampNeg ((po_men Q) (x1).toNatClampNeg)), (pa_pastSide A), (pa_pastRights A), (pa_pastPassed A), (pa_plies A)) U Y K H tl, q)) (fun _ _ => rfl) ?_
    exact hg _ _ hM
theorem sl_M_enter_2 {fu : Nat} {sn : Nat} {sx : Nat → Int32} {X : List am_C} {q : Nat × Nat} {tl : List am_C} {E : ThT} {G : RtT} {Q : PoT} {N : NuT} {U : UnT} {Y : LiT} {K : KeT} {H : HlT} {oo : am_O} {e : (PaT)} (hx : x_M_enter_2 sn sx X q tl E G Q N U Y K H oo e) : ∀ (n : Nat) (x1 : Int32) (A : PaT), l_M_enter_2 fu Q K n x1 A = some e → am_ev 1 k_M_enter (2, [.ref 1000, .int x1], [], (zl sn sx, X, xr E G Q N A U Y K H tl, q)) oo
  | 0, _, _, hM => by have h : (none : Option ((PaT))) = some e := hM; cases h
  | n + 1, _, _, hM => sb_M_enter_2 hx (fun _ _ hM => sl_M_enter_2 hx n _ _ hM) hM
theorem sj_M_enter_34 {fu : Nat} {sn : Nat} {sx : Nat → Int32} {X : List am_C} {q : Nat × Nat} {tl : List am_C} {E : ThT} {G : RtT} {Q : PoT} {N : NuT} {A : PaT} {U : UnT} {Y : LiT} {K : KeT} {H : HlT} {oo : am_O} {e : PaT × KeT} (hx : y_M_enter sn sx X q tl E G Q N U Y H oo e) (hM : j_M_enter_34 fu Q A K = some e) : am_ev 1 k_M_enter (34, [.ref 1000, am_ju], [], (zl sn sx, X, xr E G Q N A U Y K H tl, q)) oo := by
  unfold j_M_enter_34 at hM
  obtain ⟨c4, hM⟩ := am_ifn hM
  refine am_ev.kc 7 47 [.ref 1000, am_ju] [] (zl sn sx, X, xr E G Q N ((pa_pastMen A), (upd (pa_pastSide A) ((pa_plies A)).toNatClampNeg (po_side Q)), (pa_pastRights A), (pa_pastPassed A), (pa_plies A)) U Y K H tl, q) c4 (fun _ _ => rfl) ?_
  obtain ⟨c5, hM⟩ := am_ifn hM
  refine am_ev.kc 7 60 [.ref 1000, am_ju] [] (zl sn sx, X, xr E G Q N ((pa_pastMen A), (upd (pa_pastSide A) ((pa_plies A)).toNatClampNeg (po_side Q)), (upd (pa_pastRights A) ((pa_plies A)).toNatClampNeg (po_rights Q)), (pa_pastPassed A), (pa_plies A)) U Y K H tl, q) c5 (fun _ _ => rfl) ?_
  obtain ⟨c6, hM⟩ := am_ifn hM
  refine am_ev.kc 7 73 [.ref 1000, am_ju] [] (zl sn sx, X, xr E G Q N ((pa_pastMen A), (upd (pa_pastSide A) ((pa_plies A)).toNatClampNeg (po_side Q)), (upd (pa_pastRights A) ((pa_plies A)).toNatClampNeg (po_rights Q)), (upd (pa_pastPassed A) ((pa_plies A)).toNatClampNeg (po_passed Q)), (pa_plies A)) U Y K H tl, q) c6 (fun _ _ => rfl) ?_
  cases hM
  cases hx
  exact am_ev.kf 4 (fun _ _ => rfl)
theorem se_M_enter {fu : Nat} {sn : Nat} {sx : Nat → Int32} {X : List am_C} {q : Nat × Nat} {tl : List am_C} {E : ThT} {G : RtT} {Q : PoT} {N : NuT} {A : PaT} {U : UnT} {Y : LiT} {K : KeT} {H : HlT} {oo : am_O} {e : PaT × KeT} (hx : y_M_enter sn sx X q tl E G Q N U Y H oo e) (hM : f_M_enter fu Q A K = some e) : am_ev 1 k_M_enter (0, [.ref 1000, am_ju], [], (zl sn sx, X, xr E G Q N A U Y K H tl, q)) oo := by
  unfold f_M_enter at hM
  refine am_ev.kg 2 (pc' := 2) (lv' := [.ref 1000, .int (0 : Int32)]) (st' := []) (h' := (zl sn sx, X, xr E G Q N A U Y K H tl, q)) (fun _ _ => rfl) ?_
  obtain ⟨z, hz, hM⟩ := am_bind hM
  obtain ⟨az_1, rfl⟩ : ∃ y, y = z := ⟨_, rfl⟩
  refine sl_M_enter_2 ?_ _ _ _ hz
  show am_ev 1 k_M_enter (34, [.ref 1000, am_ju], [], (zl sn sx, X, xr E G Q N az_1 U Y K H tl, q)) oo
  exact sj_M_enter_34 hx hM
theorem s_M_enter {fu : Nat} {sn : Nat} {sx : Nat → Int32} {X : List am_C} {q : Nat × Nat} {tl : List am_C} {E : ThT} {G : RtT} {Q : PoT} {N : NuT} {A : PaT} {U : UnT} {Y : LiT} {K : KeT} {H : HlT} {oA : PaT} {oK : KeT} (hM : f_M_enter fu Q A K = some (oA, oK)) : am_cv 2 k_M_enter [.ref 1000] (zl sn sx, X, xr E G Q N A U Y K H tl, q) (.inl none, (zl sn sx, X, xr E G Q N oA U Y oK H tl, q)) := am_cv.of rfl (se_M_enter (e := (oA, oK)) (show y_M_enter sn sx X q tl E G Q N U Y H _ (oA, oK) from rfl) hM)
def y_M_play (sn : Nat) (sx : Nat → Int32) (X : List am_C) (q : Nat × Nat) (tl : List am_C) (G : RtT) (N : NuT) (H : HlT) (oo : am_O) : Int32 × ThT × PoT × PaT × UnT × LiT × KeT → Prop
  | (ov, oE, oQ, oA, oU, oY, oK) => oo = (.inl (some (.int ov)), (zl sn sx, X, xr oE G oQ N oA oU oY oK H tl, q))
def x_M_play_11 (sn : Nat) (sx : Nat → Int32) (X : List am_C) (q : Nat × Nat) (tl : List am_C) (E : ThT) (G : RtT) (Q : PoT) (N : NuT) (A : PaT) (U : UnT) (Y : LiT) (K : KeT) (H : HlT) (x1 : Int32) (x2 : Int32) (oo : am_O) : (Int32) → Prop
  | x3 => am_ev 9 k_M_play (44, [.ref 1000, .int x1, am_ju, .int x3, am_ju], [], (zl sn sx, X, xr E G Q N A U Y K H tl, q)) oo
theorem sj_M_play_37 {fu : Nat} {sn : Nat} {sx : Nat → Int32} {X : List am_C} {q : Nat × Nat} {tl : List am_C} {E : ThT} {G : RtT} {Q : PoT} {N : NuT} {A : PaT} {U : UnT} {Y : LiT} {K : KeT} {H : HlT} {x1 : Int32} {x2 : Int32} {x4 : Int32} {s0 : Int32} {oo : am_O} {e : (Int32)} {gg : Int32 → Int32 → Option ((Int32))} (hx : x_M_play_11 sn sx X q tl E G Q N A U Y K H x1 x2 oo e) (hg : ∀ (x3 : Int32) (x4 : Int32), gg x3 x4 = some e → am_ev 9 k_M_play (11, [.ref 1000, .int x1, .int x2, .int x3, .int x4], [], (zl sn sx, X, xr E G Q N A U Y K H tl, q)) oo) (hM : j_M_play_37 fu gg E Q A U Y K x1 x2 x4 s0 = some e) : am_ev 9 k_M_play (37, [.ref 1000, .int x1, .int x2, am_ju, .int x4], [.int s0], (zl sn sx, X, xr E G Q N A U Y K H tl, q)) oo := by
  unfold j_M_play_37 at hM
  refine am_ev.kg 3 (pc' := 11) (lv' := [.ref 1000, .int x1, .int x2, .int s0, .int (x4 + (1 : Int32))]) (st' := []) (h' := (zl sn sx, X, xr E G Q N A U Y K H tl, q)) (fun _ _ => rfl) ?_
  exact hg _ _ hM
theorem sj_M_play_67 {fu : Nat} {sn : Nat} {sx : Nat → Int32} {X : List am_C} {q : Nat × Nat} {tl : List am_C} {E : ThT} {G : RtT} {Q : PoT} {N : NuT} {A : PaT} {U : UnT} {Y : LiT} {K : KeT} {H : HlT} {x1 : Int32} {s1 : Int32} {oo : am_O} {e : Int32 × ThT × PoT × PaT × UnT × LiT × KeT} (hx : y_M_play sn sx X q tl G N H oo e) (hM : j_M_play_67 fu E Q A U Y K x1 s1 = some e) : am_ev 9 k_M_play (67, [.ref 1000, .int x1, am_ju, am_ju, am_ju], [.int s1, .ref 1000], (zl sn sx, X, xr E G Q N A U Y K H tl, q)) oo := by
  unfold j_M_play_67 at hM
  rcases am_if hM with ⟨c1, hM⟩ | ⟨c1, hM⟩
  · refine am_ev.kt 4 79 77 [.ref 1000, .int x1, am_ju, am_ju, am_ju] [] (zl sn sx, X, xr s1 G Q N A U Y K H tl, q) c1 (fun _ _ => rfl) ?_
    obtain ⟨rr, hc, hM⟩ := am_bind hM
    obtain ⟨qg5, ug6⟩ := rr
    refine am_ev.kg 3 (pc' := 82) (lv' := [.ref 1000, .int x1, am_ju, am_ju, am_ju]) (st' := [.int (0 : Int32), .int x1, .ref 1000]) (h' := (zl sn sx, X, xr s1 G Q N A U Y K H tl, q)) (fun _ _ => rfl) ?_
    refine am_ev.call rfl rfl rfl ((s_M_make hc).mono (by decide)) ?_
    show am_ev _ k_M_play (85, [.ref 1000, .int x1, am_ju, am_ju, am_ju], [], (zl sn sx, X, xr s1 G qg5 N A ug6 Y K H tl, q)) oo
    obtain ⟨rr, hc, hM⟩ := am_bind hM
    obtain ⟨ag7, kg8⟩ := rr
    refine am_ev.kg 7 (pc' := 96) (lv' := [.ref 1000, .int x1, am_ju, am_ju, am_ju]) (st' := [.ref 1000]) (h' := (zl sn sx, X, xr s1 G qg5 N ((pa_pastMen A), (pa_pastSide A), (pa_pastRights A), (pa_pastPassed A), ((pa_plies A) + (1 : Int32))) ug6 Y K H tl, q)) (fun _ _ => rfl) ?_
    refine am_ev.call rfl rfl rfl ((s_M_enter hc).mono (by decide)) ?_
    show am_ev _ k_M_play (99, [.ref 1000, .int x1, am_ju, am_ju, am_ju], [], (zl sn sx, X, xr s1 G qg5 N ag7 ug6 Y kg8 H tl, q)) oo
    cases hM
    cases hx
    exact am_ev.kf 3 (fun _ _ => rfl)
  · refine am_ev.ke 4 79 77 [.ref 1000, .int x1, am_ju, am_ju, am_ju] [] (zl sn sx, X, xr s1 G Q N A U Y K H tl, q) c1 (fun _ _ => rfl) ?_
    cases hM
    cases hx
    exact am_ev.kf 2 (fun _ _ => rfl)
theorem sj_M_play_44 {fu : Nat} {sn : Nat} {sx : Nat → Int32} {X : List am_C} {q : Nat × Nat} {tl : List am_C} {E : ThT} {G : RtT} {Q : PoT} {N : NuT} {A : PaT} {U : UnT} {Y : LiT} {K : KeT} {H : HlT} {x1 : Int32} {x3 : Int32} {oo : am_O} {e : Int32 × ThT × PoT × PaT × UnT × LiT × KeT} (hx : y_M_play sn sx X q tl G N H oo e) (hM : j_M_play_44 fu E Q A U Y K x1 x3 = some e) : am_ev 9 k_M_play (44, [.ref 1000, .int x1, am_ju, .int x3, am_ju], [], (zl sn sx, X, xr E G Q N A U Y K H tl, q)) oo := by
  unfold j_M_play_44 at hM
  rcases am_if hM with ⟨c2, hM⟩ | ⟨c2, hM⟩
  · refine am_ev.kt 3 53 49 [.ref 1000, .int x1, am_ju, .int x3, am_ju] [.ref 1000] (zl sn sx, X, xr E G Q N A U Y K H tl, q) c2 (fun _ _ => rfl) ?_
    rcases am_if hM with ⟨c3, hM⟩ | ⟨c3, hM⟩
    · refine am_ev.kt 4 66 62 [.ref 1000, .int x1, am_ju, .int x3, am_ju] [.ref 1000] (zl sn sx, X, xr E G Q N A U Y K H tl, q) c3 (fun _ _ => rfl) ?_
      refine am_ev.kg 1 (pc' := 67) (lv' := [.ref 1000, .int x1, am_ju, .int x3, am_ju]) (st' := [.int (0 : Int32), .ref 1000]) (h' := (zl sn sx, X, xr E G Q N A U Y K H tl, q)) (fun _ _ => rfl) ?_
      refine am_ev.wk (lv' := [.ref 1000, .int x1, am_ju, am_ju, am_ju]) (am_lc (Or.inr rfl) (am_lc (Or.inr rfl) (am_lc (Or.inr rfl) (am_lc (Or.inl rfl) (am_lc (Or.inr rfl) am_ln))))) ?_
      exact sj_M_play_67 hx hM
    · refine am_ev.ke 4 66 62 [.ref 1000, .int x1, am_ju, .int x3, am_ju] [.ref 1000] (zl sn sx, X, xr E G Q N A U Y K H tl, q) c3 (fun _ _ => rfl) ?_
      refine am_ev.kg 2 (pc' := 67) (lv' := [.ref 1000, .int x1, am_ju, .int x3, am_ju]) (st' := [.int (2 : Int32), .ref 1000]) (h' := (zl sn sx, X, xr E G Q N A U Y K H tl, q)) (fun _ _ => rfl) ?_
      refine am_ev.wk (lv' := [.ref 1000, .int x1, am_ju, am_ju, am_ju]) (am_lc (Or.inr rfl) (am_lc (Or.inr rfl) (am_lc (Or.inr rfl) (am_lc (Or.inl rfl) (am_lc (Or.inr rfl) am_ln))))) ?_
      exact sj_M_play_67 hx hM
  · refine am_ev.ke 3 53 49 [.ref 1000, .int x1, am_ju, .int x3, am_ju] [.ref 1000] (zl sn sx, X, xr E G Q N A U Y K H tl, q) c2 (fun _ _ => rfl) ?_
    refine am_ev.kg 2 (pc' := 67) (lv' := [.ref 1000, .int x1, am_ju, .int x3, am_ju]) (st' := [.int (1 : Int32), .ref 1000]) (h' := (zl sn sx, X, xr E G Q N A U Y K H tl, q)) (fun _ _ => rfl) ?_
    refine am_ev.wk (lv' := [.ref 1000, .int x1, am_ju, am_ju, am_ju]) (am_lc (Or.inr rfl) (am_lc (Or.inr rfl) (am_lc (Or.inr rfl) (am_lc (Or.inl rfl) (am_lc (Or.inr rfl) am_ln))))) ?_
    exact sj_M_play_67 hx hM
theorem sj_M_play_32 {fu : Nat} {sn : Nat} {sx : Nat → Int32} {X : List am_C} {q : Nat × Nat} {tl : List am_C} {E : ThT} {G : RtT} {Q : PoT} {N : NuT} {A : PaT} {U : UnT} {Y : LiT} {K : KeT} {H : HlT} {x1 : Int32} {x2 : Int32} {x4 : Int32} {oo : am_O} {e : (Int32)} {gg : Int32 → Int32 → Option ((Int32))} (hx : x_M_play_11 sn sx X q tl E G Q N A U Y K H x1 x2 oo e) (hg : ∀ (x3 : Int32) (x4 : Int32), gg x3 x4 = some e → am_ev 9 k_M_play (11, [.ref 1000, .int x1, .int x2, .int x3, .int x4], [], (zl sn sx, X, xr E G Q N A U Y K H tl, q)) oo) (hM : j_M_play_32 fu gg E Q A U Y K x1 x2 x4 = some e) : am_ev 9 k_M_play (32, [.ref 1000, .int x1, .int x2, am_ju, .int x4], [], (zl sn sx, X, xr E G Q N A U Y K H tl, q)) oo := by
  unfold j_M_play_32 at hM
  refine am_ev.kg 2 (pc' := 37) (lv' := [.ref 1000, .int x1, .int x2, am_ju, .int x4]) (st' := [.int (1 : Int32)]) (h' := (zl sn sx, X, xr E G Q N A U Y K H tl, q)) (fun _ _ => rfl) ?_
  exact sj_M_play_37 hx hg hM
theorem sb_M_play_11 {fu : Nat} {sn : Nat} {sx : Nat → Int32} {X : List am_C} {q : Nat × Nat} {tl : List am_C} {E : ThT} {G : RtT} {Q : PoT} {N : NuT} {A : PaT} {U : UnT} {Y : LiT} {K : KeT} {H : HlT} {x1 : Int32} {x2 : Int32} {oo : am_O} {e : (Int32)} {gg : Int32 → Int32 → Option ((Int32))} (hx : x_M_play_11 sn sx X q tl E G Q N A U Y K H x1 x2 oo e) (hg : ∀ (x3 : Int32) (x4 : Int32), gg x3 x4 = some e → am_ev 9 k_M_play (11, [.ref 1000, .int x1, .int x2, .int x3, .int x4], [], (zl sn sx, X, xr E G Q N A U Y K H tl, q)) oo) {x3 : Int32} {x4 : Int32} (hM : b_M_play_11 fu E Q A U Y K x1 x2 gg x3 x4 = some e) : am_ev 9 k_M_play (11, [.ref 1000, .int x1, .int x2, .int x3, .int x4], [], (zl sn sx, X, xr E G Q N A U Y K H tl, q)) oo := by
  unfold b_M_play_11 at hM
  rcases am_if hM with ⟨c4, hM⟩ | ⟨c4, hM⟩
  · refine am_ev.kt 3 44 17 [.ref 1000, .int x1, .int x2, .int x3, .int x4] [] (zl sn sx, X, xr E G Q N A U Y K H tl, q) c4 (fun _ _ => rfl) ?_
    refine am_ev.wk (lv' := [.ref 1000, .int x1, am_ju, .int x3, am_ju]) (am_lc (Or.inr rfl) (am_lc (Or.inr rfl) (am_lc (Or.inl rfl) (am_lc (Or.inr rfl) (am_lc (Or.inl rfl) am_ln))))) ?_
    cases hM
    exact hx
  · refine am_ev.ke 3 44 17 [.ref 1000, .int x1, .int x2, .int x3, .int x4] [] (zl sn sx, X, xr E G Q N A U Y K H tl, q) c4 (fun _ _ => rfl) ?_
    rcases am_if hM with ⟨c5, hM⟩ | ⟨c5, hM⟩
    · refine am_ev.kt 2 32 21 [.ref 1000, .int x1, .int x2, .int x3, .int x4] [] (zl sn sx, X, xr E G Q N A U Y K H tl, q) c5 (fun _ _ => rfl) ?_
      refine am_ev.wk (lv' := [.ref 1000, .int x1, .int x2, am_ju, .int x4]) (am_lc (Or.inr rfl) (am_lc (Or.inr rfl) (am_lc (Or.inr rfl) (am_lc (Or.inl rfl) (am_lc (Or.inr rfl) am_ln))))) ?_
      exact sj_M_play_32 hx hg hM
    · refine am_ev.ke 2 32 21 [.ref 1000, .int x1, .int x2, .int x3, .int x4] [] (zl sn sx, X, xr E G Q N A U Y K H tl, q) c5 (fun _ _ => rfl) ?_
      obtain ⟨c6, hM⟩ := am_ifn hM
      refine am_ev.kc 4 28 [.ref 1000, .int x1, .int x2, .int x3, .int x4] [.int ((li_lists Y) (x4).toNatClampNeg)] (zl sn sx, X, xr E G Q N A U Y K H tl, q) c6 (fun _ _ => rfl) ?_
      rcases am_if hM with ⟨c7, hM⟩ | ⟨c7, hM⟩
      · refine am_ev.kt 2 36 32 [.ref 1000, .int x1, .int x2, .int x3, .int x4] [] (zl sn sx, X, xr E G Q N A U Y K H tl, q) c7 (fun _ _ => rfl) ?_
        refine am_ev.kg 1 (pc' := 37) (lv' := [.ref 1000, .int x1, .int x2, .int x3, .int x4]) (st' := [.int (0 : Int32)]) (h' := (zl sn sx, X, xr E G Q N A U Y K H tl, q)) (fun _ _ => rfl) ?_
        refine am_ev.wk (lv' := [.ref 1000, .int x1, .int x2, am_ju, .int x4]) (am_lc (Or.inr rfl) (am_lc (Or.inr rfl) (am_lc (Or.inr rfl) (am_lc (Or.inl rfl) (am_lc (Or.inr rfl) am_ln))))) ?_
        exact sj_M_play_37 hx hg hM
      · refine am_ev.ke 2 36 32 [.ref 1000, .int x1, .int x2, .int x3, .int x4] [] (zl sn sx, X, xr E G Q N A U Y K H tl, q) c7 (fun _ _ => rfl) ?_
        refine am_ev.wk (lv' := [.ref 1000, .int x1, .int x2, am_ju, .int x4]) (am_lc (Or.inr rfl) (am_lc (Or.inr rfl) (am_lc (Or.inr rfl) (am_lc (Or.inl rfl) (am_lc (Or.inr rfl) am_ln))))) ?_
        exact sj_M_play_32 hx hg hM
theorem sl_M_play_11 {fu : Nat} {sn : Nat} {sx : Nat → Int32} {X : List am_C} {q : Nat × Nat} {tl : List am_C} {E : ThT} {G : RtT} {Q : PoT} {N : NuT} {A : PaT} {U : UnT} {Y : LiT} {K : KeT} {H : HlT} {x1 : Int32} {x2 : Int32} {oo : am_O} {e : (Int32)} (hx : x_M_play_11 sn sx X q tl E G Q N A U Y K H x1 x2 oo e) : ∀ (n : Nat) (x3 : Int32) (x4 : Int32), l_M_play_11 fu E Q A U Y K x1 x2 n x3 x4 = some e → am_ev 9 k_M_play (11, [.ref 1000, .int x1, .int x2, .int x3, .int x4], [], (zl sn sx, X, xr E G Q N A U Y K H tl, q)) oo
  | 0, _, _, hM => by have h : (none : Option ((Int32))) = some e := hM; cases h
  | n + 1, _, _, hM => sb_M_play_11 hx (fun _ _ hM => sl_M_play_11 hx n _ _ hM) hM
theorem se_M_play {fu : Nat} {sn : Nat} {sx : Nat → Int32} {X : List am_C} {q : Nat × Nat} {tl : List am_C} {E : ThT} {G : RtT} {Q : PoT} {N : NuT} {A : PaT} {U : UnT} {Y : LiT} {K : KeT} {H : HlT} {x1 : Int32} {oo : am_O} {e : Int32 × ThT × PoT × PaT × UnT × LiT × KeT} (hx : y_M_play sn sx X q tl G N H oo e) (hM : f_M_play fu x1 E Q A U Y K = some e) : am_ev 9 k_M_play (0, [.ref 1000, .int x1, am_ju, am_ju, am_ju], [], (zl sn sx, X, xr E G Q N A U Y K H tl, q)) oo := by
  unfold f_M_play at hM
  obtain ⟨rr, hc, hM⟩ := am_bind hM
  obtain ⟨r1, qg2, ug3, yg4⟩ := rr
  refine am_ev.kg 2 (pc' := 2) (lv' := [.ref 1000, .int x1, am_ju, am_ju, am_ju]) (st' := [.int (0 : Int32), .ref 1000]) (h' := (zl sn sx, X, xr E G Q N A U Y K H tl, q)) (fun _ _ => rfl) ?_
  refine am_ev.call rfl rfl rfl ((s_M_list hc).mono (by decide)) ?_
  show am_ev _ k_M_play (5, [.ref 1000, .int x1, am_ju, am_ju, am_ju], [.int r1], (zl sn sx, X, xr E G qg2 N A ug3 yg4 K H tl, q)) oo
  refine am_ev.kg 5 (pc' := 11) (lv' := [.ref 1000, .int x1, .int r1, .int (0 : Int32), .int (0 : Int32)]) (st' := []) (h' := (zl sn sx, X, xr E G qg2 N A ug3 yg4 K H tl, q)) (fun _ _ => rfl) ?_
  obtain ⟨z, hz, hM⟩ := am_bind hM
  obtain ⟨x3_1, rfl⟩ : ∃ y, y = z := ⟨_, rfl⟩
  refine sl_M_play_11 ?_ _ _ _ hz
  show am_ev 9 k_M_play (44, [.ref 1000, .int x1, am_ju, .int x3_1, am_ju], [], (zl sn sx, X, xr E G qg2 N A ug3 yg4 K H tl, q)) oo
  exact sj_M_play_44 hx hM
theorem s_M_play {fu : Nat} {sn : Nat} {sx : Nat → Int32} {X : List am_C} {q : Nat × Nat} {tl : List am_C} {E : ThT} {G : RtT} {Q : PoT} {N : NuT} {A : PaT} {U : UnT} {Y : LiT} {K : KeT} {H : HlT} {x1 : Int32} {ov : Int32} {oE : ThT} {oQ : PoT} {oA : PaT} {oU : UnT} {oY : LiT} {oK : KeT} (hM : f_M_play fu x1 E Q A U Y K = some (ov, oE, oQ, oA, oU, oY, oK)) : am_cv 10 k_M_play [.ref 1000, .int x1] (zl sn sx, X, xr E G Q N A U Y K H tl, q) (.inl (some (.int ov)), (zl sn sx, X, xr oE G oQ N oA oU oY oK H tl, q)) := am_cv.of rfl (se_M_play (e := (ov, oE, oQ, oA, oU, oY, oK)) (show y_M_play sn sx X q tl G N H _ (ov, oE, oQ, oA, oU, oY, oK) from rfl) hM)
def y_M_goTo (sn : Nat) (sx : Nat → Int32) (X : List am_C) (q : Nat × Nat) (tl : List am_C) (E : ThT) (G : RtT) (N : NuT) (A : PaT) (U : UnT) (Y : LiT) (K : KeT) (H : HlT) (oo : am_O) : PoT → Prop
  | oQ => oo = (.inl none, (zl sn sx, X, xr E G oQ N A U Y K H tl, q))
def x_M_goTo_2 (sn : Nat) (sx : Nat → Int32) (X : List am_C) (q : Nat × Nat) (tl : List am_C) (E : ThT) (G : RtT) (N : NuT) (A : PaT) (U : UnT) (Y : LiT) (K : KeT) (H : HlT) (x1 : Int32) (oo : am_O) : (PoT) → Prop
  | Q => am_ev 1 k_M_goTo (31, [.ref 1000, .int x1, am_ju], [], (zl sn sx, X, xr E G Q N A U Y K H tl, q)) oo
theorem sb_M_goTo_2 {fu : Nat} {sn : Nat} {sx : Nat → Int32} {X : List am_C} {q : Nat × Nat} {tl : List am_C} {E : ThT} {G : RtT} {N : NuT} {A : PaT} {U : UnT} {Y : LiT} {K : KeT} {H : HlT} {x1 : Int32} {oo : am_O} {e : (PoT)} {gg : Int32 → PoT → Option ((PoT))} (hx : x_M_goTo_2 sn sx X q tl E G N A U Y K H x1 oo e) (hg : ∀ (x2 : Int32) (Q : PoT), gg x2 Q = some e → am_ev 1 k_M_goTo (2, [.ref 1000, .int x1, .int x2], [], (zl sn sx, X, xr E G Q N A U Y K H tl, q)) oo) {x2 : Int32} {Q : PoT} (hM : b_M_goTo_2 fu A x1 gg x2 Q = some e) : am_ev 1 k_M_goTo (2, [.ref 1000, .int x1, .int x2], [], (zl sn sx, X, xr E G Q N A U Y K H tl, q)) oo := by
  unfold b_M_goTo_2 at hM
  rcases am_if hM with ⟨c1, hM⟩ | ⟨c1, hM⟩
  · refine am_ev.kt 3 31 8 [.ref 1000, .int x1, .int x2] [] (zl sn sx, X, xr E G Q N A U Y K H tl, q) c1 (fun _ _ => rfl) ?_
    refine am_ev.wk (lv' := [.ref 1000, .int x1, am_ju]) (am_lc (Or.inr rfl) (am_lc (Or.inr rfl) (am_lc (Or.inl rfl) am_ln))) ?_
    cases hM
    exact hx
  · refine am_ev.ke 3 31 8 [.ref 1000, .int x1, .int x2] [] (zl sn sx, X, xr E G Q N A U Y K H tl, q) c1 (fun _ _ => rfl) ?_
    obtain ⟨c2, hM⟩ := am_ifn hM
    refine am_ev.kc 11 24 [.ref 1000, .int x1, .int x2] [.int ((pa_pastMen A) ((((64 : Int32) * x1) + x2)).toNatClampNeg), .int x2, .ref 1002] (zl sn sx, X, xr E G Q N A U Y K H tl, q) c2 (fun _ _ => rfl) ?_
    obtain ⟨c3, hM⟩ := am_ifn hM
    refine am_ev.kc 1 25 [.ref 1000, .int x1, .int x2] [] (zl sn sx, X, xr E G ((upd (po_men Q) (x2).toNatClampNeg ((pa_pastMen A) ((((64 : Int32) * x1) + x2)).toNatClampNeg)), (po_side Q), (po_rights Q), (po_passed Q), (po_clock Q)) N A U Y K H tl, q) c3 (fun _ _ => rfl) ?_
    refine am_ev.kg 2 (pc' := 2) (lv' := [.ref 1000, .int x1, .int (x2 + (1 : Int32))]) (st' := []) (h' := (zl sn sx, X, xr E G ((upd (po_men Q) (x2).toNatClampNeg ((pa_pastMen A) ((((64 : Int32) * x1) + x2)).toNatClampNeg)), (po_side Q), (po_rights Q), (po_passed Q), (po_clock Q)) N A U Y K H tl, q)) (fun _ _ => rfl) ?_
    exact hg _ _ hM
theorem sl_M_goTo_2 {fu : Nat} {sn : Nat} {sx : Nat → Int32} {X : List am_C} {q : Nat × Nat} {tl : List am_C} {E : ThT} {G : RtT} {N : NuT} {A : PaT} {U : UnT} {Y : LiT} {K : KeT} {H : HlT} {x1 : Int32} {oo : am_O} {e : (PoT)} (hx : x_M_goTo_2 sn sx X q tl E G N A U Y K H x1 oo e) : ∀ (n : Nat) (x2 : Int32) (Q : PoT), l_M_goTo_2 fu A x1 n x2 Q = some e → am_ev 1 k_M_goTo (2, [.ref 1000, .int x1, .int x2], [], (zl sn sx, X, xr E G Q N A U Y K H tl, q)) oo
  | 0, _, _, hM => by have h : (none : Option ((PoT))) = some e := hM; cases h
  | n + 1, _, _, hM => sb_M_goTo_2 hx (fun _ _ hM => sl_M_goTo_2 hx n _ _ hM) hM
theorem sj_M_goTo_31 {fu : Nat} {sn : Nat} {sx : Nat → Int32} {X : List am_C} {q : Nat × Nat} {tl : List am_C} {E : ThT} {G : RtT} {Q : PoT} {N : NuT} {A : PaT} {U : UnT} {Y : LiT} {K : KeT} {H : HlT} {x1 : Int32} {oo : am_O} {e : PoT} (hx : y_M_goTo sn sx X q tl E G N A U Y K H oo e) (hM : j_M_goTo_31 fu Q A x1 = some e) : am_ev 1 k_M_goTo (31, [.ref 1000, .int x1, am_ju], [], (zl sn sx, X, xr E G Q N A U Y K H tl, q)) oo := by
  unfold j_M_goTo_31 at hM
  obtain ⟨c4, hM⟩ := am_ifn hM
  refine am_ev.kc 5 38 [.ref 1000, .int x1, am_ju] [.int ((pa_pastSide A) (x1).toNatClampNeg), .ref 1000] (zl sn sx, X, xr E G Q N A U Y K H tl, q) c4 (fun _ _ => rfl) ?_
  obtain ⟨c5, hM⟩ := am_ifn hM
  refine am_ev.kc 6 48 [.ref 1000, .int x1, am_ju] [.int ((pa_pastRights A) (x1).toNatClampNeg), .ref 1000] (zl sn sx, X, xr E G ((po_men Q), ((pa_pastSide A) (x1).toNatClampNeg), (po_rights Q), (po_passed Q), (po_clock Q)) N A U Y K H tl, q) c5 (fun _ _ => rfl) ?_
  obtain ⟨c6, hM⟩ := am_ifn hM
  refine am_ev.kc 6 58 [.ref 1000, .int x1, am_ju] [.int ((pa_pastPassed A) (x1).toNatClampNeg), .ref 1000] (zl sn sx, X, xr E G ((po_men Q), ((pa_pastSide A) (x1).toNatClampNeg), ((pa_pastRights A) (x1).toNatClampNeg), (po_passed Q), (po_clock Q)) N A U Y K H tl, q) c6 (fun _ _ => rfl) ?_
  cases hM
  cases hx
  exact am_ev.kf 2 (fun _ _ => rfl)
theorem se_M_goTo {fu : Nat} {sn : Nat} {sx : Nat → Int32} {X : List am_C} {q : Nat × Nat} {tl : List am_C} {E : ThT} {G : RtT} {Q : PoT} {N : NuT} {A : PaT} {U : UnT} {Y : LiT} {K : KeT} {H : HlT} {x1 : Int32} {oo : am_O} {e : PoT} (hx : y_M_goTo sn sx X q tl E G N A U Y K H oo e) (hM : f_M_goTo fu x1 Q A = some e) : am_ev 1 k_M_goTo (0, [.ref 1000, .int x1, am_ju], [], (zl sn sx, X, xr E G Q N A U Y K H tl, q)) oo := by
  unfold f_M_goTo at hM
  refine am_ev.kg 2 (pc' := 2) (lv' := [.ref 1000, .int x1, .int (0 : Int32)]) (st' := []) (h' := (zl sn sx, X, xr E G Q N A U Y K H tl, q)) (fun _ _ => rfl) ?_
  obtain ⟨z, hz, hM⟩ := am_bind hM
  obtain ⟨qz_1, rfl⟩ : ∃ y, y = z := ⟨_, rfl⟩
  refine sl_M_goTo_2 ?_ _ _ _ hz
  show am_ev 1 k_M_goTo (31, [.ref 1000, .int x1, am_ju], [], (zl sn sx, X, xr E G qz_1 N A U Y K H tl, q)) oo
  exact sj_M_goTo_31 hx hM
theorem s_M_goTo {fu : Nat} {sn : Nat} {sx : Nat → Int32} {X : List am_C} {q : Nat × Nat} {tl : List am_C} {E : ThT} {G : RtT} {Q : PoT} {N : NuT} {A : PaT} {U : UnT} {Y : LiT} {K : KeT} {H : HlT} {x1 : Int32} {oQ : PoT} (hM : f_M_goTo fu x1 Q A = some oQ) : am_cv 2 k_M_goTo [.ref 1000, .int x1] (zl sn sx, X, xr E G Q N A U Y K H tl, q) (.inl none, (zl sn sx, X, xr E G oQ N A U Y K H tl, q)) := am_cv.of rfl (se_M_goTo (e := oQ) (show y_M_goTo sn sx X q tl E G N A U Y K H _ oQ from rfl) hM)
def y_M_back (sn : Nat) (sx : Nat → Int32) (X : List am_C) (q : Nat × Nat) (tl : List am_C) (G : RtT) (N : NuT) (U : UnT) (Y : LiT) (H : HlT) (oo : am_O) : Int32 × ThT × PoT × PaT × KeT → Prop
  | (ov, oE, oQ, oA, oK) => oo = (.inl (some (.int ov)), (zl sn sx, X, xr oE G oQ N oA U Y oK H tl, q))
theorem sj_M_back_13 {fu : Nat} {sn : Nat} {sx : Nat → Int32} {X : List am_C} {q : Nat × Nat} {tl : List am_C} {E : ThT} {G : RtT} {Q : PoT} {N : NuT} {A : PaT} {U : UnT} {Y : LiT} {K : KeT} {H : HlT} {s1 : Int32} {oo : am_O} {e : Int32 × ThT × PoT × PaT × KeT} (hx : y_M_back sn sx X q tl G N U Y H oo e) (hM : j_M_back_13 fu E Q A K s1 = some e) : am_ev 2 k_M_back (13, [.ref 1000], [.int s1, .ref 1000], (zl sn sx, X, xr E G Q N A U Y K H tl, q)) oo := by
  unfold j_M_back_13 at hM
  rcases am_if hM with ⟨c1, hM⟩ | ⟨c1, hM⟩
  · refine am_ev.kt 4 25 23 [.ref 1000] [] (zl sn sx, X, xr s1 G Q N A U Y K H tl, q) c1 (fun _ _ => rfl) ?_
    obtain ⟨rr, hc, hM⟩ := am_bind hM
    obtain ⟨qg1, rfl⟩ : ∃ z, z = rr := ⟨_, rfl⟩
    refine am_ev.kg 9 (pc' := 40) (lv' := [.ref 1000]) (st' := [.int ((pa_plies A) - (1 : Int32)), .ref 1000]) (h' := (zl sn sx, X, xr s1 G Q N ((pa_pastMen A), (pa_pastSide A), (pa_pastRights A), (pa_pastPassed A), ((pa_plies A) - (1 : Int32))) U Y K H tl, q)) (fun _ _ => rfl) ?_
    refine am_ev.call rfl rfl rfl ((s_M_goTo hc).mono (by decide)) ?_
    show am_ev _ k_M_back (43, [.ref 1000], [], (zl sn sx, X, xr s1 G qg1 N ((pa_pastMen A), (pa_pastSide A), (pa_pastRights A), (pa_pastPassed A), ((pa_plies A) - (1 : Int32))) U Y K H tl, q)) oo
    cases hM
    cases hx
    exact am_ev.kf 6 (fun _ _ => rfl)
  · refine am_ev.ke 4 25 23 [.ref 1000] [] (zl sn sx, X, xr s1 G Q N A U Y K H tl, q) c1 (fun _ _ => rfl) ?_
    cases hM
    cases hx
    exact am_ev.kf 2 (fun _ _ => rfl)
theorem se_M_back {fu : Nat} {sn : Nat} {sx : Nat → Int32} {X : List am_C} {q : Nat × Nat} {tl : List am_C} {E : ThT} {G : RtT} {Q : PoT} {N : NuT} {A : PaT} {U : UnT} {Y : LiT} {K : KeT} {H : HlT} {oo : am_O} {e : Int32 × ThT × PoT × PaT × KeT} (hx : y_M_back sn sx X q tl G N U Y H oo e) (hM : f_M_back fu E Q A K = some e) : am_ev 2 k_M_back (0, [.ref 1000], [], (zl sn sx, X, xr E G Q N A U Y K H tl, q)) oo := by
  unfold f_M_back at hM
  rcases am_if hM with ⟨c2, hM⟩ | ⟨c2, hM⟩
  · refine am_ev.kt 4 12 8 [.ref 1000] [.ref 1000] (zl sn sx, X, xr E G Q N A U Y K H tl, q) c2 (fun _ _ => rfl) ?_
    refine am_ev.kg 1 (pc' := 13) (lv' := [.ref 1000]) (st' := [.int (0 : Int32), .ref 1000]) (h' := (zl sn sx, X, xr E G Q N A U Y K H tl, q)) (fun _ _ => rfl) ?_
    exact sj_M_back_13 hx hM
  · refine am_ev.ke 4 12 8 [.ref 1000] [.ref 1000] (zl sn sx, X, xr E G Q N A U Y K H tl, q) c2 (fun _ _ => rfl) ?_
    refine am_ev.kg 2 (pc' := 13) (lv' := [.ref 1000]) (st' := [.int (1 : Int32), .ref 1000]) (h' := (zl sn sx, X, xr E G Q N A U Y K H tl, q)) (fun _ _ => rfl) ?_
    exact sj_M_back_13 hx hM
theorem s_M_back {fu : Nat} {sn : Nat} {sx : Nat → Int32} {X : List am_C} {q : Nat × Nat} {tl : List am_C} {E : ThT} {G : RtT} {Q : PoT} {N : NuT} {A : PaT} {U : UnT} {Y : LiT} {K : KeT} {H : HlT} {ov : Int32} {oE : ThT} {oQ : PoT} {oA : PaT} {oK : KeT} (hM : f_M_back fu E Q A K = some (ov, oE, oQ, oA, oK)) : am_cv 3 k_M_back [.ref 1000] (zl sn sx, X, xr E G Q N A U Y K H tl, q) (.inl (some (.int ov)), (zl sn sx, X, xr oE G oQ N oA U Y oK H tl, q)) := am_cv.of rfl (se_M_back (e := (ov, oE, oQ, oA, oK)) (show y_M_back sn sx X q tl G N U Y H _ (ov, oE, oQ, oA, oK) from rfl) hM)
def y_M_beaten (sn : Nat) (sx : Nat → Int32) (X : List am_C) (q : Nat × Nat) (tl : List am_C) (G : RtT) (N : NuT) (A : PaT) (K : KeT) (H : HlT) (oo : am_O) : Int32 × ThT × PoT × UnT × LiT → Prop
  | (ov, oE, oQ, oU, oY) => oo = (.inl (some (.int ov)), (zl sn sx, X, xr oE G oQ N A oU oY K H tl, q))
theorem se_M_beaten {fu : Nat} {sn : Nat} {sx : Nat → Int32} {X : List am_C} {q : Nat × Nat} {tl : List am_C} {E : ThT} {G : RtT} {Q : PoT} {N : NuT} {A : PaT} {U : UnT} {Y : LiT} {K : KeT} {H : HlT} {oo : am_O} {e : Int32 × ThT × PoT × UnT × LiT} (hx : y_M_beaten sn sx X q tl G N A K H oo e) (hM : f_M_beaten fu E Q U Y = some e) : am_ev 9 k_M_beaten (0, [.ref 1000], [], (zl sn sx, X, xr E G Q N A U Y K H tl, q)) oo := by
  unfold f_M_beaten at hM
  obtain ⟨rr, hc, hM⟩ := am_bind hM
  obtain ⟨r1, qg2, ug3, yg4⟩ := rr
  refine am_ev.kg 5 (pc' := 7) (lv' := [.ref 1000]) (st' := [.int (0 : Int32), .ref 1000]) (h' := (zl sn sx, X, xr (0 : Int32) G Q N A U Y K H tl, q)) (fun _ _ => rfl) ?_
  refine am_ev.call rfl rfl rfl ((s_M_list hc).mono (by decide)) ?_
  show am_ev _ k_M_beaten (10, [.ref 1000], [.int r1], (zl sn sx, X, xr (0 : Int32) G qg2 N A ug3 yg4 K H tl, q)) oo
  rcases am_if hM with ⟨c1, hM⟩ | ⟨c1, hM⟩
  · refine am_ev.kt 1 17 13 [.ref 1000] [] (zl sn sx, X, xr (0 : Int32) G qg2 N A ug3 yg4 K H tl, q) c1 (fun _ _ => rfl) ?_
    obtain ⟨rr, hc, hM⟩ := am_bind hM
    obtain ⟨r5, rfl⟩ : ∃ z, z = rr := ⟨_, rfl⟩
    refine am_ev.kg 3 (pc' := 22) (lv' := [.ref 1000]) (st' := [.int (po_side qg2), .ref 1000]) (h' := (zl sn sx, X, xr (0 : Int32) G qg2 N A ug3 yg4 K H tl, q)) (fun _ _ => rfl) ?_
    refine am_ev.call rfl rfl rfl ((s_M_inCheck hc).mono (by decide)) ?_
    show am_ev _ k_M_beaten (25, [.ref 1000], [.int r5], (zl sn sx, X, xr (0 : Int32) G qg2 N A ug3 yg4 K H tl, q)) oo
    rcases am_if hM with ⟨c2, hM⟩ | ⟨c2, hM⟩
    · refine am_ev.kt 1 32 28 [.ref 1000] [] (zl sn sx, X, xr (0 : Int32) G qg2 N A ug3 yg4 K H tl, q) c2 (fun _ _ => rfl) ?_
      cases hM
      cases hx
      exact am_ev.kf 2 (fun _ _ => rfl)
    · refine am_ev.ke 1 32 28 [.ref 1000] [] (zl sn sx, X, xr (0 : Int32) G qg2 N A ug3 yg4 K H tl, q) c2 (fun _ _ => rfl) ?_
      cases hM
      cases hx
      exact am_ev.kf 3 (fun _ _ => rfl)
  · refine am_ev.ke 1 17 13 [.ref 1000] [] (zl sn sx, X, xr (0 : Int32) G qg2 N A ug3 yg4 K H tl, q) c1 (fun _ _ => rfl) ?_
    cases hM
    cases hx
    exact am_ev.kf 3 (fun _ _ => rfl)
theorem s_M_beaten {fu : Nat} {sn : Nat} {sx : Nat → Int32} {X : List am_C} {q : Nat × Nat} {tl : List am_C} {E : ThT} {G : RtT} {Q : PoT} {N : NuT} {A : PaT} {U : UnT} {Y : LiT} {K : KeT} {H : HlT} {ov : Int32} {oE : ThT} {oQ : PoT} {oU : UnT} {oY : LiT} (hM : f_M_beaten fu E Q U Y = some (ov, oE, oQ, oU, oY)) : am_cv 10 k_M_beaten [.ref 1000] (zl sn sx, X, xr E G Q N A U Y K H tl, q) (.inl (some (.int ov)), (zl sn sx, X, xr oE G oQ N A oU oY K H tl, q)) := am_cv.of rfl (se_M_beaten (e := (ov, oE, oQ, oU, oY)) (show y_M_beaten sn sx X q tl G N A K H _ (ov, oE, oQ, oU, oY) from rfl) hM)
def y_M_hasMove (sn : Nat) (sx : Nat → Int32) (X : List am_C) (q : Nat × Nat) (tl : List am_C) (E : ThT) (G : RtT) (N : NuT) (A : PaT) (Y : LiT) (K : KeT) (H : HlT) (oo : am_O) : Int32 × PoT × UnT → Prop
  | (ov, oQ, oU) => oo = (.inl (some (.int ov)), (zl sn sx, X, xr E G oQ N A oU Y K H tl, q))
def x_M_hasMove_33 (sn : Nat) (sx : Nat → Int32) (X : List am_C) (q : Nat × Nat) (tl : List am_C) (E : ThT) (G : RtT) (N : NuT) (A : PaT) (Y : LiT) (K : KeT) (H : HlT) (x1 : Int32) (l2 : Int64) (oo : am_O) : ((PoT × UnT)) ⊕ (Int32 × PoT × UnT) → Prop
  | (.inl (Q, U)) => am_ev 8 k_M_hasMove (95, [.ref 1000, .int x1, am_ju, am_ju, am_ju], [], (zl sn sx, X, xr E G Q N A U Y K H tl, q)) oo
  | .inr (ov, oQ, oU) => oo = (.inl (some (.int ov)), (zl sn sx, X, xr E G oQ N A oU Y K H tl, q))
def x_M_hasMove_2 (sn : Nat) (sx : Nat → Int32) (X : List am_C) (q : Nat × Nat) (tl : List am_C) (E : ThT) (G : RtT) (N : NuT) (A : PaT) (Y : LiT) (K : KeT) (H : HlT) (oo : am_O) : Int32 × PoT × UnT → Prop
  | (ov, oQ, oU) => oo = (.inl (some (.int ov)), (zl sn sx, X, xr E G oQ N A oU Y K H tl, q))
theorem sj_M_hasMove_95 {fu : Nat} {sn : Nat} {sx : Nat → Int32} {X : List am_C} {q : Nat × Nat} {tl : List am_C} {E : ThT} {G : RtT} {Q : PoT} {N : NuT} {A : PaT} {U : UnT} {Y : LiT} {K : KeT} {H : HlT} {x1 : Int32} {oo : am_O} {e : Int32 × PoT × UnT} {gg : Int32 → PoT → UnT → Option (Int32 × PoT × UnT)} (hx : x_M_hasMove_2 sn sx X q tl E G N A Y K H oo e) (hg : ∀ (x1 : Int32) (Q : PoT) (U : UnT), gg x1 Q U = some e → am_ev 8 k_M_hasMove (2, [.ref 1000, .int x1, am_ju, am_ju, am_ju], [], (zl sn sx, X, xr E G Q N A U Y K H tl, q)) oo) (hM : j_M_hasMove_95 fu gg Q U x1 = some e) : am_ev 8 k_M_hasMove (95, [.ref 1000, .int x1, am_ju, am_ju, am_ju], [], (zl sn sx, X, xr E G Q N A U Y K H tl, q)) oo := by
  unfold j_M_hasMove_95 at hM
  refine am_ev.kg 2 (pc' := 2) (lv' := [.ref 1000, .int (x1 + (1 : Int32)), am_ju, am_ju, am_ju]) (st' := []) (h' := (zl sn sx, X, xr E G Q N A U Y K H tl, q)) (fun _ _ => rfl) ?_
  exact hg _ _ _ hM
theorem sj_M_hasMove_89 {fu : Nat} {sn : Nat} {sx : Nat → Int32} {X : List am_C} {q : Nat × Nat} {tl : List am_C} {E : ThT} {G : RtT} {Q : PoT} {N : NuT} {A : PaT} {U : UnT} {Y : LiT} {K : KeT} {H : HlT} {x1 : Int32} {l2 : Int64} {x4 : Int32} {oo : am_O} {e : ((PoT × UnT)) ⊕ (Int32 × PoT × UnT)} {gg : Int32 → PoT → UnT → Option (((PoT × UnT)) ⊕ (Int32 × PoT × UnT))} (hx : x_M_hasMove_33 sn sx X q tl E G N A Y K H x1 l2 oo e) (hg : ∀ (x4 : Int32) (Q : PoT) (U : UnT), gg x4 Q U = some e → am_ev 8 k_M_hasMove (33, [.ref 1000, .int x1, .long l2, am_ju, .int x4], [], (zl sn sx, X, xr E G Q N A U Y K H tl, q)) oo) (hM : j_M_hasMove_89 fu gg Q U x1 l2 x4 = some e) : am_ev 8 k_M_hasMove (89, [.ref 1000, .int x1, .long l2, am_ju, .int x4], [], (zl sn sx, X, xr E G Q N A U Y K H tl, q)) oo := by
  unfold j_M_hasMove_89 at hM
  refine am_ev.kg 2 (pc' := 33) (lv' := [.ref 1000, .int x1, .long l2, am_ju, .int (x4 + (1 : Int32))]) (st' := []) (h' := (zl sn sx, X, xr E G Q N A U Y K H tl, q)) (fun _ _ => rfl) ?_
  exact hg _ _ _ hM
theorem sb_M_hasMove_33 {fu : Nat} {sn : Nat} {sx : Nat → Int32} {X : List am_C} {q : Nat × Nat} {tl : List am_C} {E : ThT} {G : RtT} {N : NuT} {A : PaT} {Y : LiT} {K : KeT} {H : HlT} {x1 : Int32} {l2 : Int64} {oo : am_O} {e : ((PoT × UnT)) ⊕ (Int32 × PoT × UnT)} {gg : Int32 → PoT → UnT → Option (((PoT × UnT)) ⊕ (Int32 × PoT × UnT))} (hx : x_M_hasMove_33 sn sx X q tl E G N A Y K H x1 l2 oo e) (hg : ∀ (x4 : Int32) (Q : PoT) (U : UnT), gg x4 Q U = some e → am_ev 8 k_M_hasMove (33, [.ref 1000, .int x1, .long l2, am_ju, .int x4], [], (zl sn sx, X, xr E G Q N A U Y K H tl, q)) oo) {x4 : Int32} {Q : PoT} {U : UnT} (hM : b_M_hasMove_33 fu x1 l2 gg x4 Q U = some e) : am_ev 8 k_M_hasMove (33, [.ref 1000, .int x1, .long l2, am_ju, .int x4], [], (zl sn sx, X, xr E G Q N A U Y K H tl, q)) oo := by
  unfold b_M_hasMove_33 at hM
  rcases am_if hM with ⟨c1, hM⟩ | ⟨c1, hM⟩
  · refine am_ev.kt 3 95 40 [.ref 1000, .int x1, .long l2, am_ju, .int x4] [] (zl sn sx, X, xr E G Q N A U Y K H tl, q) c1 (fun _ _ => rfl) ?_
    refine am_ev.wk (lv' := [.ref 1000, .int x1, am_ju, am_ju, am_ju]) (am_lc (Or.inr rfl) (am_lc (Or.inr rfl) (am_lc (Or.inl rfl) (am_lc (Or.inr rfl) (am_lc (Or.inl rfl) am_ln))))) ?_
    cases hM
    exact hx
  · refine am_ev.ke 3 95 40 [.ref 1000, .int x1, .long l2, am_ju, .int x4] [] (zl sn sx, X, xr E G Q N A U Y K H tl, q) c1 (fun _ _ => rfl) ?_
    rcases am_if hM with ⟨c2, hM⟩ | ⟨c2, hM⟩
    · refine am_ev.kt 6 95 49 [.ref 1000, .int x1, .long l2, am_ju, .int x4] [] (zl sn sx, X, xr E G Q N A U Y K H tl, q) c2 (fun _ _ => rfl) ?_
      refine am_ev.wk (lv' := [.ref 1000, .int x1, am_ju, am_ju, am_ju]) (am_lc (Or.inr rfl) (am_lc (Or.inr rfl) (am_lc (Or.inl rfl) (am_lc (Or.inr rfl) (am_lc (Or.inl rfl) am_ln))))) ?_
      cases hM
      exact hx
    · refine am_ev.ke 6 95 49 [.ref 1000, .int x1, .long l2, am_ju, .int x4] [] (zl sn sx, X, xr E G Q N A U Y K H tl, q) c2 (fun _ _ => rfl) ?_
      rcases am_if hM with ⟨c3, hM⟩ | ⟨c3, hM⟩
      · refine am_ev.kt 8 89 60 [.ref 1000, .int x1, .long l2, am_ju, .int x4] [] (zl sn sx, X, xr E G Q N A U Y K H tl, q) c3 (fun _ _ => rfl) ?_
        exact sj_M_hasMove_89 hx hg hM
      · refine am_ev.ke 8 89 60 [.ref 1000, .int x1, .long l2, am_ju, .int x4] [] (zl sn sx, X, xr E G Q N A U Y K H tl, q) c3 (fun _ _ => rfl) ?_
        obtain ⟨rr, hc, hM⟩ := am_bind hM
        obtain ⟨r3, rfl⟩ : ∃ z, z = rr := ⟨_, rfl⟩
        refine am_ev.kg 4 (pc' := 67) (lv' := [.ref 1000, .int x1, .long l2, am_ju, .int x4]) (st' := [.int (po_side Q), .int x4, .ref 1000]) (h' := (zl sn sx, X, xr E G Q N A U Y K H tl, q)) (fun _ _ => rfl) ?_
        refine am_ev.call rfl rfl rfl ((s_M_isOf hc).mono (by decide)) ?_
        show am_ev _ k_M_hasMove (70, [.ref 1000, .int x1, .long l2, am_ju, .int x4], [.int r3], (zl sn sx, X, xr E G Q N A U Y K H tl, q)) oo
        rcases am_if hM with ⟨c4, hM⟩ | ⟨c4, hM⟩
        · refine am_ev.kt 1 89 73 [.ref 1000, .int x1, .long l2, am_ju, .int x4] [] (zl sn sx, X, xr E G Q N A U Y K H tl, q) c4 (fun _ _ => rfl) ?_
          exact sj_M_hasMove_89 hx hg hM
        · refine am_ev.ke 1 89 73 [.ref 1000, .int x1, .long l2, am_ju, .int x4] [] (zl sn sx, X, xr E G Q N A U Y K H tl, q) c4 (fun _ _ => rfl) ?_
          obtain ⟨rr, hc, hM⟩ := am_bind hM
          obtain ⟨r4, qg5, ug6⟩ := rr
          refine am_ev.kg 6 (pc' := 81) (lv' := [.ref 1000, .int x1, .long l2, am_ju, .int x4]) (st' := [.int (x1 + ((64 : Int32) * x4)), .ref 1000]) (h' := (zl sn sx, X, xr E G Q N A U Y K H tl, q)) (fun _ _ => rfl) ?_
          refine am_ev.call rfl rfl rfl ((s_M_isLegal hc).mono (by decide)) ?_
          show am_ev _ k_M_hasMove (84, [.ref 1000, .int x1, .long l2, am_ju, .int x4], [.int r4], (zl sn sx, X, xr E G qg5 N A ug6 Y K H tl, q)) oo
          rcases am_if hM with ⟨c5, hM⟩ | ⟨c5, hM⟩
          · refine am_ev.kt 1 89 87 [.ref 1000, .int x1, .long l2, am_ju, .int x4] [] (zl sn sx, X, xr E G qg5 N A ug6 Y K H tl, q) c5 (fun _ _ => rfl) ?_
            exact sj_M_hasMove_89 hx hg hM
          · refine am_ev.ke 1 89 87 [.ref 1000, .int x1, .long l2, am_ju, .int x4] [] (zl sn sx, X, xr E G qg5 N A ug6 Y K H tl, q) c5 (fun _ _ => rfl) ?_
            cases hM
            cases hx
            exact am_ev.kf 2 (fun _ _ => rfl)
theorem sl_M_hasMove_33 {fu : Nat} {sn : Nat} {sx : Nat → Int32} {X : List am_C} {q : Nat × Nat} {tl : List am_C} {E : ThT} {G : RtT} {N : NuT} {A : PaT} {Y : LiT} {K : KeT} {H : HlT} {x1 : Int32} {l2 : Int64} {oo : am_O} {e : ((PoT × UnT)) ⊕ (Int32 × PoT × UnT)} (hx : x_M_hasMove_33 sn sx X q tl E G N A Y K H x1 l2 oo e) : ∀ (n : Nat) (x4 : Int32) (Q : PoT) (U : UnT), l_M_hasMove_33 fu x1 l2 n x4 Q U = some e → am_ev 8 k_M_hasMove (33, [.ref 1000, .int x1, .long l2, am_ju, .int x4], [], (zl sn sx, X, xr E G Q N A U Y K H tl, q)) oo
  | 0, _, _, _, hM => by have h : (none : Option (((PoT × UnT)) ⊕ (Int32 × PoT × UnT))) = some e := hM; cases h
  | n + 1, _, _, _, hM => sb_M_hasMove_33 hx (fun _ _ _ hM => sl_M_hasMove_33 hx n _ _ _ hM) hM
theorem sj_M_hasMove_29 {fu : Nat} {sn : Nat} {sx : Nat → Int32} {X : List am_C} {q : Nat × Nat} {tl : List am_C} {E : ThT} {G : RtT} {Q : PoT} {N : NuT} {A : PaT} {U : UnT} {Y : LiT} {K : KeT} {H : HlT} {x1 : Int32} {t0 : Int64} {oo : am_O} {e : Int32 × PoT × UnT} {gg : Int32 → PoT → UnT → Option (Int32 × PoT × UnT)} (hx : x_M_hasMove_2 sn sx X q tl E G N A Y K H oo e) (hg : ∀ (x1 : Int32) (Q : PoT) (U : UnT), gg x1 Q U = some e → am_ev 8 k_M_hasMove (2, [.ref 1000, .int x1, am_ju, am_ju, am_ju], [], (zl sn sx, X, xr E G Q N A U Y K H tl, q)) oo) (hM : j_M_hasMove_29 fu gg Q U x1 t0 = some e) : am_ev 8 k_M_hasMove (29, [.ref 1000, .int x1, am_ju, am_ju, am_ju], [.long t0], (zl sn sx, X, xr E G Q N A U Y K H tl, q)) oo := by
  unfold j_M_hasMove_29 at hM
  refine am_ev.kg 3 (pc' := 33) (lv' := [.ref 1000, .int x1, .long t0, am_ju, .int (0 : Int32)]) (st' := []) (h' := (zl sn sx, X, xr E G Q N A U Y K H tl, q)) (fun _ _ => rfl) ?_
  obtain ⟨z, hz, hM⟩ := am_bind hM
  rcases z with z | z
  ·
    obtain ⟨qz_1, uz_1⟩ := z
    refine sl_M_hasMove_33 ?_ _ _ _ _ hz
    show am_ev 8 k_M_hasMove (95, [.ref 1000, .int x1, am_ju, am_ju, am_ju], [], (zl sn sx, X, xr E G qz_1 N A uz_1 Y K H tl, q)) oo
    exact sj_M_hasMove_95 hx hg hM
  ·
    obtain ⟨ov, oQ, oU⟩ := z
    cases hM
    refine sl_M_hasMove_33 ?_ _ _ _ _ hz
    exact hx
theorem sb_M_hasMove_2 {fu : Nat} {sn : Nat} {sx : Nat → Int32} {X : List am_C} {q : Nat × Nat} {tl : List am_C} {E : ThT} {G : RtT} {N : NuT} {A : PaT} {Y : LiT} {K : KeT} {H : HlT} {oo : am_O} {e : Int32 × PoT × UnT} {gg : Int32 → PoT → UnT → Option (Int32 × PoT × UnT)} (hx : x_M_hasMove_2 sn sx X q tl E G N A Y K H oo e) (hg : ∀ (x1 : Int32) (Q : PoT) (U : UnT), gg x1 Q U = some e → am_ev 8 k_M_hasMove (2, [.ref 1000, .int x1, am_ju, am_ju, am_ju], [], (zl sn sx, X, xr E G Q N A U Y K H tl, q)) oo) {x1 : Int32} {Q : PoT} {U : UnT} (hM : b_M_hasMove_2 fu gg x1 Q U = some e) : am_ev 8 k_M_hasMove (2, [.ref 1000, .int x1, am_ju, am_ju, am_ju], [], (zl sn sx, X, xr E G Q N A U Y K H tl, q)) oo := by
  unfold b_M_hasMove_2 at hM
  rcases am_if hM with ⟨c6, hM⟩ | ⟨c6, hM⟩
  · refine am_ev.kt 3 101 8 [.ref 1000, .int x1, am_ju, am_ju, am_ju] [] (zl sn sx, X, xr E G Q N A U Y K H tl, q) c6 (fun _ _ => rfl) ?_
    cases hM
    cases hx
    exact am_ev.kf 2 (fun _ _ => rfl)
  · refine am_ev.ke 3 101 8 [.ref 1000, .int x1, am_ju, am_ju, am_ju] [] (zl sn sx, X, xr E G Q N A U Y K H tl, q) c6 (fun _ _ => rfl) ?_
    obtain ⟨rr, hc, hM⟩ := am_bind hM
    obtain ⟨r1, rfl⟩ : ∃ z, z = rr := ⟨_, rfl⟩
    refine am_ev.kg 4 (pc' := 14) (lv' := [.ref 1000, .int x1, am_ju, am_ju, am_ju]) (st' := [.int (po_side Q), .int x1, .ref 1000]) (h' := (zl sn sx, X, xr E G Q N A U Y K H tl, q)) (fun _ _ => rfl) ?_
    refine am_ev.call rfl rfl rfl ((s_M_isOf hc).mono (by decide)) ?_
    show am_ev _ k_M_hasMove (17, [.ref 1000, .int x1, am_ju, am_ju, am_ju], [.int r1], (zl sn sx, X, xr E G Q N A U Y K H tl, q)) oo
    rcases am_if hM with ⟨c7, hM⟩ | ⟨c7, hM⟩
    · refine am_ev.kt 1 28 20 [.ref 1000, .int x1, am_ju, am_ju, am_ju] [] (zl sn sx, X, xr E G Q N A U Y K H tl, q) c7 (fun _ _ => rfl) ?_
      refine am_ev.kg 1 (pc' := 29) (lv' := [.ref 1000, .int x1, am_ju, am_ju, am_ju]) (st' := [.long (0 : Int64)]) (h' := (zl sn sx, X, xr E G Q N A U Y K H tl, q)) (fun _ _ => rfl) ?_
      exact sj_M_hasMove_29 hx hg hM
    · refine am_ev.ke 1 28 20 [.ref 1000, .int x1, am_ju, am_ju, am_ju] [] (zl sn sx, X, xr E G Q N A U Y K H tl, q) c7 (fun _ _ => rfl) ?_
      obtain ⟨rr, hc, hM⟩ := am_bind hM
      obtain ⟨r2, rfl⟩ : ∃ z, z = rr := ⟨_, rfl⟩
      refine am_ev.kg 2 (pc' := 22) (lv' := [.ref 1000, .int x1, am_ju, am_ju, am_ju]) (st' := [.int x1, .ref 1000]) (h' := (zl sn sx, X, xr E G Q N A U Y K H tl, q)) (fun _ _ => rfl) ?_
      refine am_ev.call rfl rfl rfl ((s_M_goals hc).mono (by decide)) ?_
      show am_ev _ k_M_hasMove (25, [.ref 1000, .int x1, am_ju, am_ju, am_ju], [.long r2], (zl sn sx, X, xr E G Q N A U Y K H tl, q)) oo
      refine am_ev.kg 1 (pc' := 29) (lv' := [.ref 1000, .int x1, am_ju, am_ju, am_ju]) (st' := [.long r2]) (h' := (zl sn sx, X, xr E G Q N A U Y K H tl, q)) (fun _ _ => rfl) ?_
      exact sj_M_hasMove_29 hx hg hM
theorem sl_M_hasMove_2 {fu : Nat} {sn : Nat} {sx : Nat → Int32} {X : List am_C} {q : Nat × Nat} {tl : List am_C} {E : ThT} {G : RtT} {N : NuT} {A : PaT} {Y : LiT} {K : KeT} {H : HlT} {oo : am_O} {e : Int32 × PoT × UnT} (hx : x_M_hasMove_2 sn sx X q tl E G N A Y K H oo e) : ∀ (n : Nat) (x1 : Int32) (Q : PoT) (U : UnT), l_M_hasMove_2 fu n x1 Q U = some e → am_ev 8 k_M_hasMove (2, [.ref 1000, .int x1, am_ju, am_ju, am_ju], [], (zl sn sx, X, xr E G Q N A U Y K H tl, q)) oo
  | 0, _, _, _, hM => by have h : (none : Option (Int32 × PoT × UnT)) = some e := hM; cases h
  | n + 1, _, _, _, hM => sb_M_hasMove_2 hx (fun _ _ _ hM => sl_M_hasMove_2 hx n _ _ _ hM) hM
theorem se_M_hasMove {fu : Nat} {sn : Nat} {sx : Nat → Int32} {X : List am_C} {q : Nat × Nat} {tl : List am_C} {E : ThT} {G : RtT} {Q : PoT} {N : NuT} {A : PaT} {U : UnT} {Y : LiT} {K : KeT} {H : HlT} {oo : am_O} {e : Int32 × PoT × UnT} (hx : y_M_hasMove sn sx X q tl E G N A Y K H oo e) (hM : f_M_hasMove fu Q U = some e) : am_ev 8 k_M_hasMove (0, [.ref 1000, am_ju, am_ju, am_ju, am_ju], [], (zl sn sx, X, xr E G Q N A U Y K H tl, q)) oo := by
  unfold f_M_hasMove at hM
  refine am_ev.kg 2 (pc' := 2) (lv' := [.ref 1000, .int (0 : Int32), am_ju, am_ju, am_ju]) (st' := []) (h' := (zl sn sx, X, xr E G Q N A U Y K H tl, q)) (fun _ _ => rfl) ?_
  obtain ⟨ov, oQ, oU⟩ := e
  refine sl_M_hasMove_2 ?_ _ _ _ _ hM
  exact hx
theorem s_M_hasMove {fu : Nat} {sn : Nat} {sx : Nat → Int32} {X : List am_C} {q : Nat × Nat} {tl : List am_C} {E : ThT} {G : RtT} {Q : PoT} {N : NuT} {A : PaT} {U : UnT} {Y : LiT} {K : KeT} {H : HlT} {ov : Int32} {oQ : PoT} {oU : UnT} (hM : f_M_hasMove fu Q U = some (ov, oQ, oU)) : am_cv 9 k_M_hasMove [.ref 1000] (zl sn sx, X, xr E G Q N A U Y K H tl, q) (.inl (some (.int ov)), (zl sn sx, X, xr E G oQ N A oU Y K H tl, q)) := am_cv.of rfl (se_M_hasMove (e := (ov, oQ, oU)) (show y_M_hasMove sn sx X q tl E G N A Y K H _ (ov, oQ, oU) from rfl) hM)
def y_M_isBeaten (sn : Nat) (sx : Nat → Int32) (X : List am_C) (q : Nat × Nat) (tl : List am_C) (E : ThT) (G : RtT) (N : NuT) (A : PaT) (Y : LiT) (K : KeT) (H : HlT) (oo : am_O) : Int32 × PoT × UnT → Prop
  | (ov, oQ, oU) => oo = (.inl (some (.int ov)), (zl sn sx, X, xr E G oQ N A oU Y K H tl, q))
theorem sj_M_isBeaten_17 {fu : Nat} {sn : Nat} {sx : Nat → Int32} {X : List am_C} {q : Nat × Nat} {tl : List am_C} {E : ThT} {G : RtT} {Q : PoT} {N : NuT} {A : PaT} {U : UnT} {Y : LiT} {K : KeT} {H : HlT} {s0 : Int32} {s1 : Int32} {oo : am_O} {e : Int32 × PoT × UnT} (hx : y_M_isBeaten sn sx X q tl E G N A Y K H oo e) (hM : j_M_isBeaten_17 fu Q U s0 s1 = some e) : am_ev 9 k_M_isBeaten (17, [.ref 1000, am_ju], [.int s1, .int s0], (zl sn sx, X, xr E G Q N A U Y K H tl, q)) oo := by
  unfold j_M_isBeaten_17 at hM
  rcases am_if hM with ⟨c1, hM⟩ | ⟨c1, hM⟩
  · refine am_ev.kt 1 31 20 [.ref 1000, am_ju] [] (zl sn sx, X, xr E G Q N A U Y K H tl, q) c1 (fun _ _ => rfl) ?_
    cases hM
    cases hx
    exact am_ev.kf 2 (fun _ _ => rfl)
  · refine am_ev.ke 1 31 20 [.ref 1000, am_ju] [] (zl sn sx, X, xr E G Q N A U Y K H tl, q) c1 (fun _ _ => rfl) ?_
    obtain ⟨rr, hc, hM⟩ := am_bind hM
    obtain ⟨r2, qg3, ug4⟩ := rr
    refine am_ev.kg 1 (pc' := 21) (lv' := [.ref 1000, am_ju]) (st' := [.ref 1000]) (h' := (zl sn sx, X, xr E G Q N A U Y K H tl, q)) (fun _ _ => rfl) ?_
    refine am_ev.call rfl rfl rfl ((s_M_hasMove hc).mono (by decide)) ?_
    show am_ev _ k_M_isBeaten (24, [.ref 1000, am_ju], [.int r2], (zl sn sx, X, xr E G qg3 N A ug4 Y K H tl, q)) oo
    rcases am_if hM with ⟨c2, hM⟩ | ⟨c2, hM⟩
    · refine am_ev.kt 1 31 27 [.ref 1000, am_ju] [] (zl sn sx, X, xr E G qg3 N A ug4 Y K H tl, q) c2 (fun _ _ => rfl) ?_
      cases hM
      cases hx
      exact am_ev.kf 2 (fun _ _ => rfl)
    · refine am_ev.ke 1 31 27 [.ref 1000, am_ju] [] (zl sn sx, X, xr E G qg3 N A ug4 Y K H tl, q) c2 (fun _ _ => rfl) ?_
      cases hM
      cases hx
      exact am_ev.kf 3 (fun _ _ => rfl)
theorem se_M_isBeaten {fu : Nat} {sn : Nat} {sx : Nat → Int32} {X : List am_C} {q : Nat × Nat} {tl : List am_C} {E : ThT} {G : RtT} {Q : PoT} {N : NuT} {A : PaT} {U : UnT} {Y : LiT} {K : KeT} {H : HlT} {x1 : Int32} {oo : am_O} {e : Int32 × PoT × UnT} (hx : y_M_isBeaten sn sx X q tl E G N A Y K H oo e) (hM : f_M_isBeaten fu x1 Q U = some e) : am_ev 9 k_M_isBeaten (0, [.ref 1000, .int x1], [], (zl sn sx, X, xr E G Q N A U Y K H tl, q)) oo := by
  unfold f_M_isBeaten at hM
  obtain ⟨rr, hc, hM⟩ := am_bind hM
  obtain ⟨r1, rfl⟩ : ∃ z, z = rr := ⟨_, rfl⟩
  refine am_ev.kg 3 (pc' := 5) (lv' := [.ref 1000, .int x1]) (st' := [.int (po_side Q), .ref 1000]) (h' := (zl sn sx, X, xr E G Q N A U Y K H tl, q)) (fun _ _ => rfl) ?_
  refine am_ev.call rfl rfl rfl ((s_M_inCheck hc).mono (by decide)) ?_
  show am_ev _ k_M_isBeaten (8, [.ref 1000, .int x1], [.int r1], (zl sn sx, X, xr E G Q N A U Y K H tl, q)) oo
  rcases am_if hM with ⟨c3, hM⟩ | ⟨c3, hM⟩
  · refine am_ev.kt 2 16 12 [.ref 1000, .int x1] [.int r1] (zl sn sx, X, xr E G Q N A U Y K H tl, q) c3 (fun _ _ => rfl) ?_
    refine am_ev.kg 1 (pc' := 17) (lv' := [.ref 1000, .int x1]) (st' := [.int (0 : Int32), .int r1]) (h' := (zl sn sx, X, xr E G Q N A U Y K H tl, q)) (fun _ _ => rfl) ?_
    refine am_ev.wk (lv' := [.ref 1000, am_ju]) (am_lc (Or.inr rfl) (am_lc (Or.inl rfl) am_ln)) ?_
    exact sj_M_isBeaten_17 hx hM
  · refine am_ev.ke 2 16 12 [.ref 1000, .int x1] [.int r1] (zl sn sx, X, xr E G Q N A U Y K H tl, q) c3 (fun _ _ => rfl) ?_
    refine am_ev.kg 2 (pc' := 17) (lv' := [.ref 1000, .int x1]) (st' := [.int (1 : Int32), .int r1]) (h' := (zl sn sx, X, xr E G Q N A U Y K H tl, q)) (fun _ _ => rfl) ?_
    refine am_ev.wk (lv' := [.ref 1000, am_ju]) (am_lc (Or.inr rfl) (am_lc (Or.inl rfl) am_ln)) ?_
    exact sj_M_isBeaten_17 hx hM
theorem s_M_isBeaten {fu : Nat} {sn : Nat} {sx : Nat → Int32} {X : List am_C} {q : Nat × Nat} {tl : List am_C} {E : ThT} {G : RtT} {Q : PoT} {N : NuT} {A : PaT} {U : UnT} {Y : LiT} {K : KeT} {H : HlT} {x1 : Int32} {ov : Int32} {oQ : PoT} {oU : UnT} (hM : f_M_isBeaten fu x1 Q U = some (ov, oQ, oU)) : am_cv 10 k_M_isBeaten [.ref 1000, .int x1] (zl sn sx, X, xr E G Q N A U Y K H tl, q) (.inl (some (.int ov)), (zl sn sx, X, xr E G oQ N A oU Y K H tl, q)) := am_cv.of rfl (se_M_isBeaten (e := (ov, oQ, oU)) (show y_M_isBeaten sn sx X q tl E G N A Y K H _ (ov, oQ, oU) from rfl) hM)
