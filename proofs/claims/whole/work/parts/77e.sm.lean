def y_M_countLines (sn : Nat) (sx : Nat → Int32) (X : List am_C) (q : Nat × Nat) (tl : List am_C) (E : ThT) (G : RtT) (N : NuT) (A : PaT) (K : KeT) (oo : am_O) : Int32 × PoT × UnT × LiT × HlT → Prop
  | (ov, oQ, oU, oY, oH) => oo = (.inl (some (.int ov)), (zl sn sx, X, xr E G oQ N A oU oY K oH tl, q))
def x_M_countLines_110 (DD : Nat) (sn : Nat) (sx : Nat → Int32) (X : List am_C) (q : Nat × Nat) (tl : List am_C) (E : ThT) (G : RtT) (N : NuT) (A : PaT) (K : KeT) (x1 : Int32) (x2 : Int32) (x3 : Int32) (x5 : Int32) (oo : am_O) : Int32 × PoT × UnT × LiT × HlT → Prop
  | (ov, oQ, oU, oY, oH) => oo = (.inl (some (.int ov)), (zl sn sx, X, xr E G oQ N A oU oY K oH tl, q))
def x_M_countLines_38 (DD : Nat) (sn : Nat) (sx : Nat → Int32) (X : List am_C) (q : Nat × Nat) (tl : List am_C) (E : ThT) (G : RtT) (Q : PoT) (N : NuT) (A : PaT) (U : UnT) (Y : LiT) (K : KeT) (x3 : Int32) (x4 : Int32) (oo : am_O) : (HlT) → Prop
  | H => am_ev DD k_M_countLines (64, [.ref 1000, am_ju, am_ju, am_ju, .int x4, am_ju, am_ju, am_ju], [], (zl sn sx, X, xr E G Q N A U Y K H tl, q)) oo
theorem sb_M_countLines_110 {fu : Nat} {DD : Nat} {cl_countLines : Int32 → Int32 → Int32 → PoT → UnT → LiT → HlT → Option (Int32 × PoT × UnT × LiT × HlT)} {sn : Nat} {sx : Nat → Int32} {X : List am_C} {q : Nat × Nat} {tl : List am_C} {E : ThT} {G : RtT} {N : NuT} {A : PaT} {K : KeT} {x1 : Int32} {x2 : Int32} {x3 : Int32} {x5 : Int32} {oo : am_O} {e : Int32 × PoT × UnT × LiT × HlT} {gg : Int32 → Int32 → PoT → UnT → LiT → HlT → Option (Int32 × PoT × UnT × LiT × HlT)} (hD : 10 ≤ DD) (hk_countLines : ∀ (E : ThT) (G : RtT) (Q : PoT) (N : NuT) (A : PaT) (U : UnT) (Y : LiT) (K : KeT) (H : HlT) (x1 : Int32) (x2 : Int32) (x3 : Int32) (ov : Int32) (oQ : PoT) (oU : UnT) (oY : LiT) (oH : HlT), cl_countLines x1 x2 x3 Q U Y H = some (ov, oQ, oU, oY, oH) → am_cv DD k_M_countLines [.ref 1000, .int x1, .int x2, .int x3] (zl sn sx, X, xr E G Q N A U Y K H tl, q) (.inl (some (.int ov)), (zl sn sx, X, xr E G oQ N A oU oY K oH tl, q))) (hx : x_M_countLines_110 DD sn sx X q tl E G N A K x1 x2 x3 x5 oo e) (hg : ∀ (x4 : Int32) (x6 : Int32) (Q : PoT) (U : UnT) (Y : LiT) (H : HlT), gg x4 x6 Q U Y H = some e → am_ev DD k_M_countLines (110, [.ref 1000, .int x1, .int x2, .int x3, .int x4, .int x5, .int x6, am_ju], [], (zl sn sx, X, xr E G Q N A U Y K H tl, q)) oo) {x4 : Int32} {x6 : Int32} {Q : PoT} {U : UnT} {Y : LiT} {H : HlT} (hM : b_M_countLines_110 fu cl_countLines x1 x2 x3 x5 gg x4 x6 Q U Y H = some e) : am_ev DD k_M_countLines (110, [.ref 1000, .int x1, .int x2, .int x3, .int x4, .int x5, .int x6, am_ju], [], (zl sn sx, X, xr E G Q N A U Y K H tl, q)) oo := by
  unfold b_M_countLines_110 at hM
  rcases am_if hM with ⟨c1, hM⟩ | ⟨c1, hM⟩
  · refine am_ev.kt 3 176 117 [.ref 1000, .int x1, .int x2, .int x3, .int x4, .int x5, .int x6, am_ju] [] (zl sn sx, X, xr E G Q N A U Y K H tl, q) c1 (fun _ _ => rfl) ?_
    cases hM
    cases hx
    exact am_ev.kf 2 (fun _ _ => rfl)
  · refine am_ev.ke 3 176 117 [.ref 1000, .int x1, .int x2, .int x3, .int x4, .int x5, .int x6, am_ju] [] (zl sn sx, X, xr E G Q N A U Y K H tl, q) c1 (fun _ _ => rfl) ?_
    obtain ⟨c2, hM⟩ := am_ifn hM
    refine am_ev.kc 8 130 [.ref 1000, .int x1, .int x2, .int x3, .int x4, .int x5, .int x6, am_ju] [.int ((li_lists Y) ((((2048 : Int32) * x3) + x6)).toNatClampNeg)] (zl sn sx, X, xr E G Q N A U Y K H tl, q) c2 (fun _ _ => rfl) ?_
    obtain ⟨c3, hM⟩ := am_ifn hM
    refine am_ev.kc 6 140 [.ref 1000, .int x1, .int x2, .int x3, .int x4, .int x5, .int x6, .int ((li_lists Y) ((((2048 : Int32) * x3) + x6)).toNatClampNeg)] [] (zl sn sx, X, xr E G Q N A U Y K ((hl_before H), (hl_met H), (hl_helpLine H), (upd (hl_tried H) (x3).toNatClampNeg ((li_lists Y) ((((2048 : Int32) * x3) + x6)).toNatClampNeg))) tl, q) c3 (fun _ _ => rfl) ?_
    obtain ⟨rr, hc, hM⟩ := am_bind hM
    obtain ⟨qg8, ug9⟩ := rr
    refine am_ev.kg 3 (pc' := 144) (lv' := [.ref 1000, .int x1, .int x2, .int x3, .int x4, .int x5, .int x6, .int ((li_lists Y) ((((2048 : Int32) * x3) + x6)).toNatClampNeg)]) (st' := [.int x3, .int ((li_lists Y) ((((2048 : Int32) * x3) + x6)).toNatClampNeg), .ref 1000]) (h' := (zl sn sx, X, xr E G Q N A U Y K ((hl_before H), (hl_met H), (hl_helpLine H), (upd (hl_tried H) (x3).toNatClampNeg ((li_lists Y) ((((2048 : Int32) * x3) + x6)).toNatClampNeg))) tl, q)) (fun _ _ => rfl) ?_
    refine am_ev.call rfl rfl rfl ((s_M_make hc).mono (Nat.le_trans (by decide : 4 ≤ 10) hD)) ?_
    show am_ev _ k_M_countLines (147, [.ref 1000, .int x1, .int x2, .int x3, .int x4, .int x5, .int x6, .int ((li_lists Y) ((((2048 : Int32) * x3) + x6)).toNatClampNeg)], [], (zl sn sx, X, xr E G qg8 N A ug9 Y K ((hl_before H), (hl_met H), (hl_helpLine H), (upd (hl_tried H) (x3).toNatClampNeg ((li_lists Y) ((((2048 : Int32) * x3) + x6)).toNatClampNeg))) tl, q)) oo
    obtain ⟨rr, hc, hM⟩ := am_bind hM
    obtain ⟨r10, qg11, ug12, yg13, hg14⟩ := rr
    refine am_ev.kg 9 (pc' := 157) (lv' := [.ref 1000, .int x1, .int x2, .int x3, .int x4, .int x5, .int x6, .int ((li_lists Y) ((((2048 : Int32) * x3) + x6)).toNatClampNeg)]) (st' := [.int (x3 + (1 : Int32)), .int (x2 - (1 : Int32)), .int x1, .ref 1000, .int x4]) (h' := (zl sn sx, X, xr E G qg8 N A ug9 Y K ((hl_before H), (hl_met H), (hl_helpLine H), (upd (hl_tried H) (x3).toNatClampNeg ((li_lists Y) ((((2048 : Int32) * x3) + x6)).toNatClampNeg))) tl, q)) (fun _ _ => rfl) ?_
    refine am_ev.call rfl rfl rfl (hk_countLines _ _ _ _ _ _ _ _ _ _ _ _ _ _ _ _ _ hc) ?_
    show am_ev _ k_M_countLines (160, [.ref 1000, .int x1, .int x2, .int x3, .int x4, .int x5, .int x6, .int ((li_lists Y) ((((2048 : Int32) * x3) + x6)).toNatClampNeg)], [.int r10, .int x4], (zl sn sx, X, xr E G qg11 N A ug12 yg13 K hg14 tl, q)) oo
    obtain ⟨rr, hc, hM⟩ := am_bind hM
    obtain ⟨qg15, rfl⟩ : ∃ z, z = rr := ⟨_, rfl⟩
    refine am_ev.kg 5 (pc' := 167) (lv' := [.ref 1000, .int x1, .int x2, .int x3, .int (x4 + r10), .int x5, .int x6, .int ((li_lists Y) ((((2048 : Int32) * x3) + x6)).toNatClampNeg)]) (st' := [.int x3, .int ((li_lists Y) ((((2048 : Int32) * x3) + x6)).toNatClampNeg), .ref 1000]) (h' := (zl sn sx, X, xr E G qg11 N A ug12 yg13 K hg14 tl, q)) (fun _ _ => rfl) ?_
    refine am_ev.call rfl rfl rfl ((s_M_takeBack hc).mono (Nat.le_trans (by decide : 3 ≤ 10) hD)) ?_
    show am_ev _ k_M_countLines (170, [.ref 1000, .int x1, .int x2, .int x3, .int (x4 + r10), .int x5, .int x6, .int ((li_lists Y) ((((2048 : Int32) * x3) + x6)).toNatClampNeg)], [], (zl sn sx, X, xr E G qg15 N A ug12 yg13 K hg14 tl, q)) oo
    refine am_ev.kg 2 (pc' := 110) (lv' := [.ref 1000, .int x1, .int x2, .int x3, .int (x4 + r10), .int x5, .int (x6 + (1 : Int32)), .int ((li_lists Y) ((((2048 : Int32) * x3) + x6)).toNatClampNeg)]) (st' := []) (h' := (zl sn sx, X, xr E G qg15 N A ug12 yg13 K hg14 tl, q)) (fun _ _ => rfl) ?_
    refine am_ev.wk (lv' := [.ref 1000, .int x1, .int x2, .int x3, .int (x4 + r10), .int x5, .int (x6 + (1 : Int32)), am_ju]) (am_lc (Or.inr rfl) (am_lc (Or.inr rfl) (am_lc (Or.inr rfl) (am_lc (Or.inr rfl) (am_lc (Or.inr rfl) (am_lc (Or.inr rfl) (am_lc (Or.inr rfl) (am_lc (Or.inl rfl) am_ln)))))))) ?_
    exact hg _ _ _ _ _ _ hM
theorem sl_M_countLines_110 {fu : Nat} {DD : Nat} {cl_countLines : Int32 → Int32 → Int32 → PoT → UnT → LiT → HlT → Option (Int32 × PoT × UnT × LiT × HlT)} {sn : Nat} {sx : Nat → Int32} {X : List am_C} {q : Nat × Nat} {tl : List am_C} {E : ThT} {G : RtT} {N : NuT} {A : PaT} {K : KeT} {x1 : Int32} {x2 : Int32} {x3 : Int32} {x5 : Int32} {oo : am_O} {e : Int32 × PoT × UnT × LiT × HlT} (hD : 10 ≤ DD) (hk_countLines : ∀ (E : ThT) (G : RtT) (Q : PoT) (N : NuT) (A : PaT) (U : UnT) (Y : LiT) (K : KeT) (H : HlT) (x1 : Int32) (x2 : Int32) (x3 : Int32) (ov : Int32) (oQ : PoT) (oU : UnT) (oY : LiT) (oH : HlT), cl_countLines x1 x2 x3 Q U Y H = some (ov, oQ, oU, oY, oH) → am_cv DD k_M_countLines [.ref 1000, .int x1, .int x2, .int x3] (zl sn sx, X, xr E G Q N A U Y K H tl, q) (.inl (some (.int ov)), (zl sn sx, X, xr E G oQ N A oU oY K oH tl, q))) (hx : x_M_countLines_110 DD sn sx X q tl E G N A K x1 x2 x3 x5 oo e) : ∀ (n : Nat) (x4 : Int32) (x6 : Int32) (Q : PoT) (U : UnT) (Y : LiT) (H : HlT), l_M_countLines_110 fu cl_countLines x1 x2 x3 x5 n x4 x6 Q U Y H = some e → am_ev DD k_M_countLines (110, [.ref 1000, .int x1, .int x2, .int x3, .int x4, .int x5, .int x6, am_ju], [], (zl sn sx, X, xr E G Q N A U Y K H tl, q)) oo
  | 0, _, _, _, _, _, _, hM => by have h : (none : Option (Int32 × PoT × UnT × LiT × HlT)) = some e := hM; cases h
  | n + 1, _, _, _, _, _, _, hM => sb_M_countLines_110 hD hk_countLines hx (fun _ _ _ _ _ _ hM => sl_M_countLines_110 hD hk_countLines hx n _ _ _ _ _ _ hM) hM
theorem sb_M_countLines_38 {fu : Nat} {DD : Nat} {cl_countLines : Int32 → Int32 → Int32 → PoT → UnT → LiT → HlT → Option (Int32 × PoT × UnT × LiT × HlT)} {sn : Nat} {sx : Nat → Int32} {X : List am_C} {q : Nat × Nat} {tl : List am_C} {E : ThT} {G : RtT} {Q : PoT} {N : NuT} {A : PaT} {U : UnT} {Y : LiT} {K : KeT} {x3 : Int32} {x4 : Int32} {oo : am_O} {e : (HlT)} {gg : Int32 → HlT → Option ((HlT))} (hD : 10 ≤ DD) (hk_countLines : ∀ (E : ThT) (G : RtT) (Q : PoT) (N : NuT) (A : PaT) (U : UnT) (Y : LiT) (K : KeT) (H : HlT) (x1 : Int32) (x2 : Int32) (x3 : Int32) (ov : Int32) (oQ : PoT) (oU : UnT) (oY : LiT) (oH : HlT), cl_countLines x1 x2 x3 Q U Y H = some (ov, oQ, oU, oY, oH) → am_cv DD k_M_countLines [.ref 1000, .int x1, .int x2, .int x3] (zl sn sx, X, xr E G Q N A U Y K H tl, q) (.inl (some (.int ov)), (zl sn sx, X, xr E G oQ N A oU oY K oH tl, q))) (hx : x_M_countLines_38 DD sn sx X q tl E G Q N A U Y K x3 x4 oo e) (hg : ∀ (x5 : Int32) (H : HlT), gg x5 H = some e → am_ev DD k_M_countLines (38, [.ref 1000, am_ju, am_ju, .int x3, .int x4, .int x5, am_ju, am_ju], [], (zl sn sx, X, xr E G Q N A U Y K H tl, q)) oo) {x5 : Int32} {H : HlT} (hM : b_M_countLines_38 fu cl_countLines Q U Y x3 x4 gg x5 H = some e) : am_ev DD k_M_countLines (38, [.ref 1000, am_ju, am_ju, .int x3, .int x4, .int x5, am_ju, am_ju], [], (zl sn sx, X, xr E G Q N A U Y K H tl, q)) oo := by
  unfold b_M_countLines_38 at hM
  rcases am_if hM with ⟨c4, hM⟩ | ⟨c4, hM⟩
  · refine am_ev.kt 3 64 44 [.ref 1000, am_ju, am_ju, .int x3, .int x4, .int x5, am_ju, am_ju] [] (zl sn sx, X, xr E G Q N A U Y K H tl, q) c4 (fun _ _ => rfl) ?_
    refine am_ev.wk (lv' := [.ref 1000, am_ju, am_ju, am_ju, .int x4, am_ju, am_ju, am_ju]) (am_lc (Or.inr rfl) (am_lc (Or.inr rfl) (am_lc (Or.inr rfl) (am_lc (Or.inl rfl) (am_lc (Or.inr rfl) (am_lc (Or.inl rfl) (am_lc (Or.inr rfl) (am_lc (Or.inr rfl) am_ln)))))))) ?_
    cases hM
    exact hx
  · refine am_ev.ke 3 64 44 [.ref 1000, am_ju, am_ju, .int x3, .int x4, .int x5, am_ju, am_ju] [] (zl sn sx, X, xr E G Q N A U Y K H tl, q) c4 (fun _ _ => rfl) ?_
    obtain ⟨c5, hM⟩ := am_ifn hM
    refine am_ev.kc 7 57 [.ref 1000, am_ju, am_ju, .int x3, .int x4, .int x5, am_ju, am_ju] [.int ((hl_tried H) (x5).toNatClampNeg), .int x5, .ref 1016] (zl sn sx, X, xr E G Q N A U Y K H tl, q) c5 (fun _ _ => rfl) ?_
    obtain ⟨c6, hM⟩ := am_ifn hM
    refine am_ev.kc 1 58 [.ref 1000, am_ju, am_ju, .int x3, .int x4, .int x5, am_ju, am_ju] [] (zl sn sx, X, xr E G Q N A U Y K ((hl_before H), (hl_met H), (upd (hl_helpLine H) (x5).toNatClampNeg ((hl_tried H) (x5).toNatClampNeg)), (hl_tried H)) tl, q) c6 (fun _ _ => rfl) ?_
    refine am_ev.kg 2 (pc' := 38) (lv' := [.ref 1000, am_ju, am_ju, .int x3, .int x4, .int (x5 + (1 : Int32)), am_ju, am_ju]) (st' := []) (h' := (zl sn sx, X, xr E G Q N A U Y K ((hl_before H), (hl_met H), (upd (hl_helpLine H) (x5).toNatClampNeg ((hl_tried H) (x5).toNatClampNeg)), (hl_tried H)) tl, q)) (fun _ _ => rfl) ?_
    exact hg _ _ hM
theorem sl_M_countLines_38 {fu : Nat} {DD : Nat} {cl_countLines : Int32 → Int32 → Int32 → PoT → UnT → LiT → HlT → Option (Int32 × PoT × UnT × LiT × HlT)} {sn : Nat} {sx : Nat → Int32} {X : List am_C} {q : Nat × Nat} {tl : List am_C} {E : ThT} {G : RtT} {Q : PoT} {N : NuT} {A : PaT} {U : UnT} {Y : LiT} {K : KeT} {x3 : Int32} {x4 : Int32} {oo : am_O} {e : (HlT)} (hD : 10 ≤ DD) (hk_countLines : ∀ (E : ThT) (G : RtT) (Q : PoT) (N : NuT) (A : PaT) (U : UnT) (Y : LiT) (K : KeT) (H : HlT) (x1 : Int32) (x2 : Int32) (x3 : Int32) (ov : Int32) (oQ : PoT) (oU : UnT) (oY : LiT) (oH : HlT), cl_countLines x1 x2 x3 Q U Y H = some (ov, oQ, oU, oY, oH) → am_cv DD k_M_countLines [.ref 1000, .int x1, .int x2, .int x3] (zl sn sx, X, xr E G Q N A U Y K H tl, q) (.inl (some (.int ov)), (zl sn sx, X, xr E G oQ N A oU oY K oH tl, q))) (hx : x_M_countLines_38 DD sn sx X q tl E G Q N A U Y K x3 x4 oo e) : ∀ (n : Nat) (x5 : Int32) (H : HlT), l_M_countLines_38 fu cl_countLines Q U Y x3 x4 n x5 H = some e → am_ev DD k_M_countLines (38, [.ref 1000, am_ju, am_ju, .int x3, .int x4, .int x5, am_ju, am_ju], [], (zl sn sx, X, xr E G Q N A U Y K H tl, q)) oo
  | 0, _, _, hM => by have h : (none : Option ((HlT))) = some e := hM; cases h
  | n + 1, _, _, hM => sb_M_countLines_38 hD hk_countLines hx (fun _ _ hM => sl_M_countLines_38 hD hk_countLines hx n _ _ hM) hM
theorem sj_M_countLines_83 {fu : Nat} {DD : Nat} {cl_countLines : Int32 → Int32 → Int32 → PoT → UnT → LiT → HlT → Option (Int32 × PoT × UnT × LiT × HlT)} {sn : Nat} {sx : Nat → Int32} {X : List am_C} {q : Nat × Nat} {tl : List am_C} {E : ThT} {G : RtT} {Q : PoT} {N : NuT} {A : PaT} {U : UnT} {Y : LiT} {K : KeT} {H : HlT} {x4 : Int32} {s1 : Int32} {oo : am_O} {e : Int32 × PoT × UnT × LiT × HlT} (hD : 10 ≤ DD) (hk_countLines : ∀ (E : ThT) (G : RtT) (Q : PoT) (N : NuT) (A : PaT) (U : UnT) (Y : LiT) (K : KeT) (H : HlT) (x1 : Int32) (x2 : Int32) (x3 : Int32) (ov : Int32) (oQ : PoT) (oU : UnT) (oY : LiT) (oH : HlT), cl_countLines x1 x2 x3 Q U Y H = some (ov, oQ, oU, oY, oH) → am_cv DD k_M_countLines [.ref 1000, .int x1, .int x2, .int x3] (zl sn sx, X, xr E G Q N A U Y K H tl, q) (.inl (some (.int ov)), (zl sn sx, X, xr E G oQ N A oU oY K oH tl, q))) (hx : y_M_countLines sn sx X q tl E G N A K oo e) (hM : j_M_countLines_83 fu cl_countLines Q U Y H x4 s1 = some e) : am_ev DD k_M_countLines (83, [am_ju, am_ju, am_ju, am_ju, .int x4, am_ju, am_ju, am_ju], [.int s1, .ref 1000], (zl sn sx, X, xr E G Q N A U Y K H tl, q)) oo := by
  unfold j_M_countLines_83 at hM
  rcases am_if hM with ⟨c7, hM⟩ | ⟨c7, hM⟩
  · refine am_ev.kt 3 95 91 [am_ju, am_ju, am_ju, am_ju, .int x4, am_ju, am_ju, am_ju] [] (zl sn sx, X, xr E G Q N A U Y K (s1, (hl_met H), (hl_helpLine H), (hl_tried H)) tl, q) c7 (fun _ _ => rfl) ?_
    cases hM
    cases hx
    exact am_ev.kf 2 (fun _ _ => rfl)
  · refine am_ev.ke 3 95 91 [am_ju, am_ju, am_ju, am_ju, .int x4, am_ju, am_ju, am_ju] [] (zl sn sx, X, xr E G Q N A U Y K (s1, (hl_met H), (hl_helpLine H), (hl_tried H)) tl, q) c7 (fun _ _ => rfl) ?_
    cases hM
    cases hx
    exact am_ev.kf 3 (fun _ _ => rfl)
theorem sj_M_countLines_64 {fu : Nat} {DD : Nat} {cl_countLines : Int32 → Int32 → Int32 → PoT → UnT → LiT → HlT → Option (Int32 × PoT × UnT × LiT × HlT)} {sn : Nat} {sx : Nat → Int32} {X : List am_C} {q : Nat × Nat} {tl : List am_C} {E : ThT} {G : RtT} {Q : PoT} {N : NuT} {A : PaT} {U : UnT} {Y : LiT} {K : KeT} {H : HlT} {x4 : Int32} {oo : am_O} {e : Int32 × PoT × UnT × LiT × HlT} (hD : 10 ≤ DD) (hk_countLines : ∀ (E : ThT) (G : RtT) (Q : PoT) (N : NuT) (A : PaT) (U : UnT) (Y : LiT) (K : KeT) (H : HlT) (x1 : Int32) (x2 : Int32) (x3 : Int32) (ov : Int32) (oQ : PoT) (oU : UnT) (oY : LiT) (oH : HlT), cl_countLines x1 x2 x3 Q U Y H = some (ov, oQ, oU, oY, oH) → am_cv DD k_M_countLines [.ref 1000, .int x1, .int x2, .int x3] (zl sn sx, X, xr E G Q N A U Y K H tl, q) (.inl (some (.int ov)), (zl sn sx, X, xr E G oQ N A oU oY K oH tl, q))) (hx : y_M_countLines sn sx X q tl E G N A K oo e) (hM : j_M_countLines_64 fu cl_countLines Q U Y H x4 = some e) : am_ev DD k_M_countLines (64, [.ref 1000, am_ju, am_ju, am_ju, .int x4, am_ju, am_ju, am_ju], [], (zl sn sx, X, xr E G Q N A U Y K H tl, q)) oo := by
  unfold j_M_countLines_64 at hM
  rcases am_if hM with ⟨c8, hM⟩ | ⟨c8, hM⟩
  · refine am_ev.kt 3 79 70 [.ref 1000, am_ju, am_ju, am_ju, .int x4, am_ju, am_ju, am_ju] [.ref 1000] (zl sn sx, X, xr E G Q N A U Y K H tl, q) c8 (fun _ _ => rfl) ?_
    refine am_ev.kg 2 (pc' := 83) (lv' := [.ref 1000, am_ju, am_ju, am_ju, .int x4, am_ju, am_ju, am_ju]) (st' := [.int (hl_before H), .ref 1000]) (h' := (zl sn sx, X, xr E G Q N A U Y K H tl, q)) (fun _ _ => rfl) ?_
    refine am_ev.wk (lv' := [am_ju, am_ju, am_ju, am_ju, .int x4, am_ju, am_ju, am_ju]) (am_lc (Or.inl rfl) (am_lc (Or.inr rfl) (am_lc (Or.inr rfl) (am_lc (Or.inr rfl) (am_lc (Or.inr rfl) (am_lc (Or.inr rfl) (am_lc (Or.inr rfl) (am_lc (Or.inr rfl) am_ln)))))))) ?_
    exact sj_M_countLines_83 hD hk_countLines hx hM
  · refine am_ev.ke 3 79 70 [.ref 1000, am_ju, am_ju, am_ju, .int x4, am_ju, am_ju, am_ju] [.ref 1000] (zl sn sx, X, xr E G Q N A U Y K H tl, q) c8 (fun _ _ => rfl) ?_
    refine am_ev.kg 5 (pc' := 83) (lv' := [.ref 1000, am_ju, am_ju, am_ju, .int x4, am_ju, am_ju, am_ju]) (st' := [.int ((hl_before H) - (1 : Int32)), .ref 1000]) (h' := (zl sn sx, X, xr E G Q N A U Y K H tl, q)) (fun _ _ => rfl) ?_
    refine am_ev.wk (lv' := [am_ju, am_ju, am_ju, am_ju, .int x4, am_ju, am_ju, am_ju]) (am_lc (Or.inl rfl) (am_lc (Or.inr rfl) (am_lc (Or.inr rfl) (am_lc (Or.inr rfl) (am_lc (Or.inr rfl) (am_lc (Or.inr rfl) (am_lc (Or.inr rfl) (am_lc (Or.inr rfl) am_ln)))))))) ?_
    exact sj_M_countLines_83 hD hk_countLines hx hM
theorem se_M_countLines {fu : Nat} {DD : Nat} {cl_countLines : Int32 → Int32 → Int32 → PoT → UnT → LiT → HlT → Option (Int32 × PoT × UnT × LiT × HlT)} {sn : Nat} {sx : Nat → Int32} {X : List am_C} {q : Nat × Nat} {tl : List am_C} {E : ThT} {G : RtT} {Q : PoT} {N : NuT} {A : PaT} {U : UnT} {Y : LiT} {K : KeT} {H : HlT} {x1 : Int32} {x2 : Int32} {x3 : Int32} {oo : am_O} {e : Int32 × PoT × UnT × LiT × HlT} (hD : 10 ≤ DD) (hk_countLines : ∀ (E : ThT) (G : RtT) (Q : PoT) (N : NuT) (A : PaT) (U : UnT) (Y : LiT) (K : KeT) (H : HlT) (x1 : Int32) (x2 : Int32) (x3 : Int32) (ov : Int32) (oQ : PoT) (oU : UnT) (oY : LiT) (oH : HlT), cl_countLines x1 x2 x3 Q U Y H = some (ov, oQ, oU, oY, oH) → am_cv DD k_M_countLines [.ref 1000, .int x1, .int x2, .int x3] (zl sn sx, X, xr E G Q N A U Y K H tl, q) (.inl (some (.int ov)), (zl sn sx, X, xr E G oQ N A oU oY K oH tl, q))) (hx : y_M_countLines sn sx X q tl E G N A K oo e) (hM : e_M_countLines fu cl_countLines x1 x2 x3 Q U Y H = some e) : am_ev DD k_M_countLines (0, [.ref 1000, .int x1, .int x2, .int x3, am_ju, am_ju, am_ju, am_ju], [], (zl sn sx, X, xr E G Q N A U Y K H tl, q)) oo := by
  unfold e_M_countLines at hM
  rcases am_if hM with ⟨c9, hM⟩ | ⟨c9, hM⟩
  · refine am_ev.kt 2 97 4 [.ref 1000, .int x1, .int x2, .int x3, am_ju, am_ju, am_ju, am_ju] [] (zl sn sx, X, xr E G Q N A U Y K H tl, q) c9 (fun _ _ => rfl) ?_
    obtain ⟨rr, hc, hM⟩ := am_bind hM
    obtain ⟨r1, qg2, ug3, yg4⟩ := rr
    refine am_ev.kg 4 (pc' := 102) (lv' := [.ref 1000, .int x1, .int x2, .int x3, .int (0 : Int32), am_ju, am_ju, am_ju]) (st' := [.int x3, .ref 1000]) (h' := (zl sn sx, X, xr E G Q N A U Y K H tl, q)) (fun _ _ => rfl) ?_
    refine am_ev.call rfl rfl rfl ((s_M_list hc).mono (Nat.le_trans (by decide : 9 ≤ 10) hD)) ?_
    show am_ev _ k_M_countLines (105, [.ref 1000, .int x1, .int x2, .int x3, .int (0 : Int32), am_ju, am_ju, am_ju], [.int r1], (zl sn sx, X, xr E G qg2 N A ug3 yg4 K H tl, q)) oo
    refine am_ev.kg 3 (pc' := 110) (lv' := [.ref 1000, .int x1, .int x2, .int x3, .int (0 : Int32), .int r1, .int (0 : Int32), am_ju]) (st' := []) (h' := (zl sn sx, X, xr E G qg2 N A ug3 yg4 K H tl, q)) (fun _ _ => rfl) ?_
    obtain ⟨ov, oQ, oU, oY, oH⟩ := e
    refine sl_M_countLines_110 hD hk_countLines ?_ _ _ _ _ _ _ _ hM
    exact hx
  · refine am_ev.ke 2 97 4 [.ref 1000, .int x1, .int x2, .int x3, am_ju, am_ju, am_ju, am_ju] [] (zl sn sx, X, xr E G Q N A U Y K H tl, q) c9 (fun _ _ => rfl) ?_
    obtain ⟨rr, hc, hM⟩ := am_bind hM
    obtain ⟨r5, qg6, ug7⟩ := rr
    refine am_ev.kg 2 (pc' := 6) (lv' := [.ref 1000, .int x1, .int x2, .int x3, am_ju, am_ju, am_ju, am_ju]) (st' := [.int x1, .ref 1000]) (h' := (zl sn sx, X, xr E G Q N A U Y K H tl, q)) (fun _ _ => rfl) ?_
    refine am_ev.call rfl rfl rfl ((s_M_isBeaten hc).mono (Nat.le_trans (by decide : 10 ≤ 10) hD)) ?_
    show am_ev _ k_M_countLines (9, [.ref 1000, .int x1, .int x2, .int x3, am_ju, am_ju, am_ju, am_ju], [.int r5], (zl sn sx, X, xr E G qg6 N A ug7 Y K H tl, q)) oo
    rcases am_if hM with ⟨c10, hM⟩ | ⟨c10, hM⟩
    · refine am_ev.kt 3 64 16 [.ref 1000, .int x1, .int x2, .int x3, .int r5, am_ju, am_ju, am_ju] [] (zl sn sx, X, xr E G qg6 N A ug7 Y K H tl, q) c10 (fun _ _ => rfl) ?_
      refine am_ev.wk (lv' := [.ref 1000, am_ju, am_ju, am_ju, .int r5, am_ju, am_ju, am_ju]) (am_lc (Or.inr rfl) (am_lc (Or.inl rfl) (am_lc (Or.inl rfl) (am_lc (Or.inl rfl) (am_lc (Or.inr rfl) (am_lc (Or.inr rfl) (am_lc (Or.inr rfl) (am_lc (Or.inr rfl) am_ln)))))))) ?_
      exact sj_M_countLines_64 hD hk_countLines hx hM
    · refine am_ev.ke 3 64 16 [.ref 1000, .int x1, .int x2, .int x3, .int r5, am_ju, am_ju, am_ju] [] (zl sn sx, X, xr E G qg6 N A ug7 Y K H tl, q) c10 (fun _ _ => rfl) ?_
      rcases am_if hM with ⟨c11, hM⟩ | ⟨c11, hM⟩
      · refine am_ev.kt 3 64 23 [.ref 1000, .int x1, .int x2, .int x3, .int r5, am_ju, am_ju, am_ju] [] (zl sn sx, X, xr E G qg6 N A ug7 Y K H tl, q) c11 (fun _ _ => rfl) ?_
        refine am_ev.wk (lv' := [.ref 1000, am_ju, am_ju, am_ju, .int r5, am_ju, am_ju, am_ju]) (am_lc (Or.inr rfl) (am_lc (Or.inl rfl) (am_lc (Or.inl rfl) (am_lc (Or.inl rfl) (am_lc (Or.inr rfl) (am_lc (Or.inr rfl) (am_lc (Or.inr rfl) (am_lc (Or.inr rfl) am_ln)))))))) ?_
        exact sj_M_countLines_64 hD hk_countLines hx hM
      · refine am_ev.ke 3 64 23 [.ref 1000, .int x1, .int x2, .int x3, .int r5, am_ju, am_ju, am_ju] [] (zl sn sx, X, xr E G qg6 N A ug7 Y K H tl, q) c11 (fun _ _ => rfl) ?_
        rcases am_if hM with ⟨c12, hM⟩ | ⟨c12, hM⟩
        · refine am_ev.kt 3 64 30 [.ref 1000, .int x1, .int x2, .int x3, .int r5, am_ju, am_ju, am_ju] [] (zl sn sx, X, xr E G qg6 N A ug7 Y K H tl, q) c12 (fun _ _ => rfl) ?_
          refine am_ev.wk (lv' := [.ref 1000, am_ju, am_ju, am_ju, .int r5, am_ju, am_ju, am_ju]) (am_lc (Or.inr rfl) (am_lc (Or.inl rfl) (am_lc (Or.inl rfl) (am_lc (Or.inl rfl) (am_lc (Or.inr rfl) (am_lc (Or.inr rfl) (am_lc (Or.inr rfl) (am_lc (Or.inr rfl) am_ln)))))))) ?_
          exact sj_M_countLines_64 hD hk_countLines hx hM
        · refine am_ev.ke 3 64 30 [.ref 1000, .int x1, .int x2, .int x3, .int r5, am_ju, am_ju, am_ju] [] (zl sn sx, X, xr E G qg6 N A ug7 Y K H tl, q) c12 (fun _ _ => rfl) ?_
          refine am_ev.kg 5 (pc' := 38) (lv' := [.ref 1000, .int x1, .int x2, .int x3, .int r5, .int (0 : Int32), am_ju, am_ju]) (st' := []) (h' := (zl sn sx, X, xr E G qg6 N A ug7 Y K ((hl_before H), (1 : Int32), (hl_helpLine H), (hl_tried H)) tl, q)) (fun _ _ => rfl) ?_
          refine am_ev.wk (lv' := [.ref 1000, am_ju, am_ju, .int x3, .int r5, .int (0 : Int32), am_ju, am_ju]) (am_lc (Or.inr rfl) (am_lc (Or.inl rfl) (am_lc (Or.inl rfl) (am_lc (Or.inr rfl) (am_lc (Or.inr rfl) (am_lc (Or.inr rfl) (am_lc (Or.inr rfl) (am_lc (Or.inr rfl) am_ln)))))))) ?_
          obtain ⟨z, hz, hM⟩ := am_bind hM
          obtain ⟨hz_1, rfl⟩ : ∃ y, y = z := ⟨_, rfl⟩
          refine sl_M_countLines_38 hD hk_countLines ?_ _ _ _ hz
          show am_ev DD k_M_countLines (64, [.ref 1000, am_ju, am_ju, am_ju, .int r5, am_ju, am_ju, am_ju], [], (zl sn sx, X, xr E G qg6 N A ug7 Y K hz_1 tl, q)) oo
          exact sj_M_countLines_64 hD hk_countLines hx hM
theorem sg_g_M_countLines {fu : Nat} {sn : Nat} {sx : Nat → Int32} {X : List am_C} {q : Nat × Nat} {tl : List am_C} : ∀ dd : Nat, (∀ (E : ThT) (G : RtT) (Q : PoT) (N : NuT) (A : PaT) (U : UnT) (Y : LiT) (K : KeT) (H : HlT) (x1 : Int32) (x2 : Int32) (x3 : Int32) (ov : Int32) (oQ : PoT) (oU : UnT) (oY : LiT) (oH : HlT), (g_M_countLines fu dd) x1 x2 x3 Q U Y H = some (ov, oQ, oU, oY, oH) → am_cv (10 + dd) k_M_countLines [.ref 1000, .int x1, .int x2, .int x3] (zl sn sx, X, xr E G Q N A U Y K H tl, q) (.inl (some (.int ov)), (zl sn sx, X, xr E G oQ N A oU oY K oH tl, q)))
  | 0 => fun _ _ _ _ _ _ _ _ _ _ _ _ _ _ _ _ _ hM => (by have h : (none : Option (Int32 × PoT × UnT × LiT × HlT)) = some _ := hM; cases h)
  | dd + 1 => fun (E : ThT) (G : RtT) (Q : PoT) (N : NuT) (A : PaT) (U : UnT) (Y : LiT) (K : KeT) (H : HlT) (x1 : Int32) (x2 : Int32) (x3 : Int32) (ov : Int32) (oQ : PoT) (oU : UnT) (oY : LiT) (oH : HlT) hM => am_cv.of rfl (se_M_countLines (Nat.le_add_right _ _) (sg_g_M_countLines dd) (e := (ov, oQ, oU, oY, oH)) (show y_M_countLines sn sx X q tl E G N A K _ (ov, oQ, oU, oY, oH) from rfl) hM)
theorem s_M_countLines {fu : Nat} {sn : Nat} {sx : Nat → Int32} {X : List am_C} {q : Nat × Nat} {tl : List am_C} {E : ThT} {G : RtT} {Q : PoT} {N : NuT} {A : PaT} {U : UnT} {Y : LiT} {K : KeT} {H : HlT} {x1 : Int32} {x2 : Int32} {x3 : Int32} {ov : Int32} {oQ : PoT} {oU : UnT} {oY : LiT} {oH : HlT} (hM : f_M_countLines fu x1 x2 x3 Q U Y H = some (ov, oQ, oU, oY, oH)) : am_cv 22 k_M_countLines [.ref 1000, .int x1, .int x2, .int x3] (zl sn sx, X, xr E G Q N A U Y K H tl, q) (.inl (some (.int ov)), (zl sn sx, X, xr E G oQ N A oU oY K oH tl, q)) := (sg_g_M_countLines 12) _ _ _ _ _ _ _ _ _ _ _ _ _ _ _ _ _ hM
def y_M_isHelp (sn : Nat) (sx : Nat → Int32) (X : List am_C) (q : Nat × Nat) (tl : List am_C) (E : ThT) (G : RtT) (Q : PoT) (N : NuT) (A : PaT) (U : UnT) (Y : LiT) (K : KeT) (H : HlT) (oo : am_O) : Int32 → Prop
  | ov => oo = (.inl (some (.int ov)), (zl sn sx, X, xr E G Q N A U Y K H tl, q))
theorem sj_M_isHelp_9 {sn : Nat} {sx : Nat → Int32} {X : List am_C} {q : Nat × Nat} {tl : List am_C} {E : ThT} {G : RtT} {Q : PoT} {N : NuT} {A : PaT} {U : UnT} {Y : LiT} {K : KeT} {H : HlT} {x1 : Int32} {oo : am_O} {e : Int32} (hx : y_M_isHelp sn sx X q tl E G Q N A U Y K H oo e) (hM : j_M_isHelp_9 x1 = some e) : am_ev 1 k_M_isHelp (9, [am_ju, .int x1], [], (zl sn sx, X, xr E G Q N A U Y K H tl, q)) oo := by
  unfold j_M_isHelp_9 at hM
  rcases am_if hM with ⟨c1, hM⟩ | ⟨c1, hM⟩
  · refine am_ev.kt 3 19 14 [am_ju, .int x1] [] (zl sn sx, X, xr E G Q N A U Y K H tl, q) c1 (fun _ _ => rfl) ?_
    cases hM
    cases hx
    exact am_ev.kf 3 (fun _ _ => rfl)
  · refine am_ev.ke 3 19 14 [am_ju, .int x1] [] (zl sn sx, X, xr E G Q N A U Y K H tl, q) c1 (fun _ _ => rfl) ?_
    rcases am_if hM with ⟨c2, hM⟩ | ⟨c2, hM⟩
    · refine am_ev.kt 3 23 19 [am_ju, .int x1] [] (zl sn sx, X, xr E G Q N A U Y K H tl, q) c2 (fun _ _ => rfl) ?_
      cases hM
      cases hx
      exact am_ev.kf 2 (fun _ _ => rfl)
    · refine am_ev.ke 3 23 19 [am_ju, .int x1] [] (zl sn sx, X, xr E G Q N A U Y K H tl, q) c2 (fun _ _ => rfl) ?_
      cases hM
      cases hx
      exact am_ev.kf 3 (fun _ _ => rfl)
theorem se_M_isHelp {sn : Nat} {sx : Nat → Int32} {X : List am_C} {q : Nat × Nat} {tl : List am_C} {E : ThT} {G : RtT} {Q : PoT} {N : NuT} {A : PaT} {U : UnT} {Y : LiT} {K : KeT} {H : HlT} {x0 : Int32} {x1 : Int32} {oo : am_O} {e : Int32} (hx : y_M_isHelp sn sx X q tl E G Q N A U Y K H oo e) (hM : f_M_isHelp x0 x1 = some e) : am_ev 1 k_M_isHelp (0, [.int x0, .int x1], [], (zl sn sx, X, xr E G Q N A U Y K H tl, q)) oo := by
  unfold f_M_isHelp at hM
  rcases am_if hM with ⟨c3, hM⟩ | ⟨c3, hM⟩
  · refine am_ev.kt 2 9 4 [.int x0, .int x1] [] (zl sn sx, X, xr E G Q N A U Y K H tl, q) c3 (fun _ _ => rfl) ?_
    refine am_ev.wk (lv' := [am_ju, .int x1]) (am_lc (Or.inl rfl) (am_lc (Or.inr rfl) am_ln)) ?_
    exact sj_M_isHelp_9 hx hM
  · refine am_ev.ke 2 9 4 [.int x0, .int x1] [] (zl sn sx, X, xr E G Q N A U Y K H tl, q) c3 (fun _ _ => rfl) ?_
    rcases am_if hM with ⟨c4, hM⟩ | ⟨c4, hM⟩
    · refine am_ev.kt 3 23 9 [.int x0, .int x1] [] (zl sn sx, X, xr E G Q N A U Y K H tl, q) c4 (fun _ _ => rfl) ?_
      cases hM
      cases hx
      exact am_ev.kf 2 (fun _ _ => rfl)
    · refine am_ev.ke 3 23 9 [.int x0, .int x1] [] (zl sn sx, X, xr E G Q N A U Y K H tl, q) c4 (fun _ _ => rfl) ?_
      refine am_ev.wk (lv' := [am_ju, .int x1]) (am_lc (Or.inl rfl) (am_lc (Or.inr rfl) am_ln)) ?_
      exact sj_M_isHelp_9 hx hM
theorem s_M_isHelp {sn : Nat} {sx : Nat → Int32} {X : List am_C} {q : Nat × Nat} {tl : List am_C} {E : ThT} {G : RtT} {Q : PoT} {N : NuT} {A : PaT} {U : UnT} {Y : LiT} {K : KeT} {H : HlT} {x0 : Int32} {x1 : Int32} {ov : Int32} (hM : f_M_isHelp x0 x1 = some ov) : am_cv 2 k_M_isHelp [.int x0, .int x1] (zl sn sx, X, xr E G Q N A U Y K H tl, q) (.inl (some (.int ov)), (zl sn sx, X, xr E G Q N A U Y K H tl, q)) := am_cv.of rfl (se_M_isHelp (e := ov) (show y_M_isHelp sn sx X q tl E G Q N A U Y K H _ ov from rfl) hM)
def y_M_lines (sn : Nat) (sx : Nat → Int32) (X : List am_C) (q : Nat × Nat) (tl : List am_C) (G : RtT) (N : NuT) (A : PaT) (K : KeT) (oo : am_O) : Int32 × ThT × PoT × UnT × LiT × HlT → Prop
  | (ov, oE, oQ, oU, oY, oH) => oo = (.inl (some (.int ov)), (zl sn sx, X, xr oE G oQ N A oU oY K oH tl, q))
theorem sj_M_lines_14 {fu : Nat} {sn : Nat} {sx : Nat → Int32} {X : List am_C} {q : Nat × Nat} {tl : List am_C} {E : ThT} {G : RtT} {Q : PoT} {N : NuT} {A : PaT} {U : UnT} {Y : LiT} {K : KeT} {H : HlT} {x1 : Int32} {x2 : Int32} {s1 : Int32} {oo : am_O} {e : Int32 × ThT × PoT × UnT × LiT × HlT} (hx : y_M_lines sn sx X q tl G N A K oo e) (hM : j_M_lines_14 fu E Q U Y H x1 x2 s1 = some e) : am_ev 22 k_M_lines (14, [.ref 1000, .int x1, .int x2], [.int s1, .ref 1000], (zl sn sx, X, xr E G Q N A U Y K H tl, q)) oo := by
  unfold j_M_lines_14 at hM
  rcases am_if hM with ⟨c1, hM⟩ | ⟨c1, hM⟩
  · refine am_ev.kt 10 38 34 [.ref 1000, .int x1, .int x2] [] (zl sn sx, X, xr s1 G Q N A U Y K ((-1 : Int32), (0 : Int32), (hl_helpLine H), (hl_tried H)) tl, q) c1 (fun _ _ => rfl) ?_
    obtain ⟨rr, hc, hM⟩ := am_bind hM
    obtain ⟨r2, qg3, ug4, yg5, hg6⟩ := rr
    refine am_ev.kg 6 (pc' := 44) (lv' := [.ref 1000, .int x1, .int x2]) (st' := [.int (0 : Int32), .int ((2 : Int32) * x2), .int x1, .ref 1000]) (h' := (zl sn sx, X, xr s1 G Q N A U Y K ((-1 : Int32), (0 : Int32), (hl_helpLine H), (hl_tried H)) tl, q)) (fun _ _ => rfl) ?_
    refine am_ev.call rfl rfl rfl ((s_M_countLines hc).mono (by decide)) ?_
    show am_ev _ k_M_lines (47, [.ref 1000, .int x1, .int x2], [.int r2], (zl sn sx, X, xr s1 G qg3 N A ug4 yg5 K hg6 tl, q)) oo
    cases hM
    cases hx
    exact am_ev.kf 1 (fun _ _ => rfl)
  · refine am_ev.ke 10 38 34 [.ref 1000, .int x1, .int x2] [] (zl sn sx, X, xr s1 G Q N A U Y K ((-1 : Int32), (0 : Int32), (hl_helpLine H), (hl_tried H)) tl, q) c1 (fun _ _ => rfl) ?_
    cases hM
    cases hx
    exact am_ev.kf 3 (fun _ _ => rfl)
theorem se_M_lines {fu : Nat} {sn : Nat} {sx : Nat → Int32} {X : List am_C} {q : Nat × Nat} {tl : List am_C} {E : ThT} {G : RtT} {Q : PoT} {N : NuT} {A : PaT} {U : UnT} {Y : LiT} {K : KeT} {H : HlT} {x1 : Int32} {x2 : Int32} {oo : am_O} {e : Int32 × ThT × PoT × UnT × LiT × HlT} (hx : y_M_lines sn sx X q tl G N A K oo e) (hM : f_M_lines fu x1 x2 E Q U Y H = some e) : am_ev 22 k_M_lines (0, [.ref 1000, .int x1, .int x2], [], (zl sn sx, X, xr E G Q N A U Y K H tl, q)) oo := by
  unfold f_M_lines at hM
  obtain ⟨rr, hc, hM⟩ := am_bind hM
  obtain ⟨r1, rfl⟩ : ∃ z, z = rr := ⟨_, rfl⟩
  refine am_ev.kg 3 (pc' := 3) (lv' := [.ref 1000, .int x1, .int x2]) (st' := [.int x2, .int x1, .ref 1000]) (h' := (zl sn sx, X, xr E G Q N A U Y K H tl, q)) (fun _ _ => rfl) ?_
  refine am_ev.call rfl rfl rfl ((s_M_isHelp hc).mono (by decide)) ?_
  show am_ev _ k_M_lines (6, [.ref 1000, .int x1, .int x2], [.int r1, .ref 1000], (zl sn sx, X, xr E G Q N A U Y K H tl, q)) oo
  rcases am_if hM with ⟨c2, hM⟩ | ⟨c2, hM⟩
  · refine am_ev.kt 1 13 9 [.ref 1000, .int x1, .int x2] [.ref 1000] (zl sn sx, X, xr E G Q N A U Y K H tl, q) c2 (fun _ _ => rfl) ?_
    refine am_ev.kg 1 (pc' := 14) (lv' := [.ref 1000, .int x1, .int x2]) (st' := [.int (1 : Int32), .ref 1000]) (h' := (zl sn sx, X, xr E G Q N A U Y K H tl, q)) (fun _ _ => rfl) ?_
    exact sj_M_lines_14 hx hM
  · refine am_ev.ke 1 13 9 [.ref 1000, .int x1, .int x2] [.ref 1000] (zl sn sx, X, xr E G Q N A U Y K H tl, q) c2 (fun _ _ => rfl) ?_
    refine am_ev.kg 2 (pc' := 14) (lv' := [.ref 1000, .int x1, .int x2]) (st' := [.int (0 : Int32), .ref 1000]) (h' := (zl sn sx, X, xr E G Q N A U Y K H tl, q)) (fun _ _ => rfl) ?_
    exact sj_M_lines_14 hx hM
theorem s_M_lines {fu : Nat} {sn : Nat} {sx : Nat → Int32} {X : List am_C} {q : Nat × Nat} {tl : List am_C} {E : ThT} {G : RtT} {Q : PoT} {N : NuT} {A : PaT} {U : UnT} {Y : LiT} {K : KeT} {H : HlT} {x1 : Int32} {x2 : Int32} {ov : Int32} {oE : ThT} {oQ : PoT} {oU : UnT} {oY : LiT} {oH : HlT} (hM : f_M_lines fu x1 x2 E Q U Y H = some (ov, oE, oQ, oU, oY, oH)) : am_cv 23 k_M_lines [.ref 1000, .int x1, .int x2] (zl sn sx, X, xr E G Q N A U Y K H tl, q) (.inl (some (.int ov)), (zl sn sx, X, xr oE G oQ N A oU oY K oH tl, q)) := am_cv.of rfl (se_M_lines (e := (ov, oE, oQ, oU, oY, oH)) (show y_M_lines sn sx X q tl G N A K _ (ov, oE, oQ, oU, oY, oH) from rfl) hM)
def y_M_line (sn : Nat) (sx : Nat → Int32) (X : List am_C) (q : Nat × Nat) (tl : List am_C) (G : RtT) (N : NuT) (A : PaT) (K : KeT) (oo : am_O) : Int32 × ThT × PoT × UnT × LiT × HlT → Prop
  | (ov, oE, oQ, oU, oY, oH) => oo = (.inl (some (.int ov)), (zl sn sx, X, xr oE G oQ N A oU oY K oH tl, q))
theorem sj_M_line_76 {fu : Nat} {sn : Nat} {sx : Nat → Int32} {X : List am_C} {q : Nat × Nat} {tl : List am_C} {E : ThT} {G : RtT} {Q : PoT} {N : NuT} {A : PaT} {U : UnT} {Y : LiT} {K : KeT} {H : HlT} {x4 : Int32} {s1 : Int32} {oo : am_O} {e : Int32 × ThT × PoT × UnT × LiT × HlT} (hx : y_M_line sn sx X q tl G N A K oo e) (hM : j_M_line_76 fu E Q U Y H x4 s1 = some e) : am_ev 22 k_M_line (76, [.ref 1000, am_ju, am_ju, am_ju, .int x4, am_ju], [.int s1, .ref 1000], (zl sn sx, X, xr E G Q N A U Y K H tl, q)) oo := by
  unfold j_M_line_76 at hM
  rcases am_if hM with ⟨c1, hM⟩ | ⟨c1, hM⟩
  · refine am_ev.kt 4 90 86 [.ref 1000, am_ju, am_ju, am_ju, .int x4, am_ju] [] (zl sn sx, X, xr s1 G Q N A U Y K H tl, q) c1 (fun _ _ => rfl) ?_
    obtain ⟨c2, hM⟩ := am_ifn hM
    refine am_ev.kc 4 97 [.ref 1000, am_ju, am_ju, am_ju, .int x4, am_ju] [.int ((hl_helpLine H) (x4).toNatClampNeg)] (zl sn sx, X, xr s1 G Q N A U Y K H tl, q) c2 (fun _ _ => rfl) ?_
    cases hM
    cases hx
    exact am_ev.kf 1 (fun _ _ => rfl)
  · refine am_ev.ke 4 90 86 [.ref 1000, am_ju, am_ju, am_ju, .int x4, am_ju] [] (zl sn sx, X, xr s1 G Q N A U Y K H tl, q) c1 (fun _ _ => rfl) ?_
    cases hM
    cases hx
    exact am_ev.kf 3 (fun _ _ => rfl)
theorem sj_M_line_71 {fu : Nat} {sn : Nat} {sx : Nat → Int32} {X : List am_C} {q : Nat × Nat} {tl : List am_C} {E : ThT} {G : RtT} {Q : PoT} {N : NuT} {A : PaT} {U : UnT} {Y : LiT} {K : KeT} {H : HlT} {x4 : Int32} {oo : am_O} {e : Int32 × ThT × PoT × UnT × LiT × HlT} (hx : y_M_line sn sx X q tl G N A K oo e) (hM : j_M_line_71 fu E Q U Y H x4 = some e) : am_ev 22 k_M_line (71, [.ref 1000, am_ju, am_ju, am_ju, .int x4, am_ju], [.ref 1000], (zl sn sx, X, xr E G Q N A U Y K H tl, q)) oo := by
  unfold j_M_line_71 at hM
  refine am_ev.kg 2 (pc' := 76) (lv' := [.ref 1000, am_ju, am_ju, am_ju, .int x4, am_ju]) (st' := [.int (2 : Int32), .ref 1000]) (h' := (zl sn sx, X, xr E G Q N A U Y K H tl, q)) (fun _ _ => rfl) ?_
  exact sj_M_line_76 hx hM
theorem sj_M_line_14 {fu : Nat} {sn : Nat} {sx : Nat → Int32} {X : List am_C} {q : Nat × Nat} {tl : List am_C} {E : ThT} {G : RtT} {Q : PoT} {N : NuT} {A : PaT} {U : UnT} {Y : LiT} {K : KeT} {H : HlT} {x1 : Int32} {x2 : Int32} {x3 : Int32} {x4 : Int32} {s1 : Int32} {oo : am_O} {e : Int32 × ThT × PoT × UnT × LiT × HlT} (hx : y_M_line sn sx X q tl G N A K oo e) (hM : j_M_line_14 fu E Q U Y H x1 x2 x3 x4 s1 = some e) : am_ev 22 k_M_line (14, [.ref 1000, .int x1, .int x2, .int x3, .int x4, am_ju], [.int s1, .ref 1000], (zl sn sx, X, xr E G Q N A U Y K H tl, q)) oo := by
  unfold j_M_line_14 at hM
  rcases am_if hM with ⟨c3, hM⟩ | ⟨c3, hM⟩
  · refine am_ev.kt 4 26 24 [.ref 1000, .int x1, .int x2, .int x3, .int x4, am_ju] [] (zl sn sx, X, xr s1 G Q N A U Y K H tl, q) c3 (fun _ _ => rfl) ?_
    obtain ⟨rr, hc, hM⟩ := am_bind hM
    obtain ⟨r2, qg3, ug4, yg5, hg6⟩ := rr
    refine am_ev.kg 12 (pc' := 42) (lv' := [.ref 1000, .int x1, .int x2, .int x3, .int x4, am_ju]) (st' := [.int (0 : Int32), .int ((2 : Int32) * x2), .int x1, .ref 1000]) (h' := (zl sn sx, X, xr s1 G Q N A U Y K (x3, (0 : Int32), (hl_helpLine H), (hl_tried H)) tl, q)) (fun _ _ => rfl) ?_
    refine am_ev.call rfl rfl rfl ((s_M_countLines hc).mono (by decide)) ?_
    show am_ev _ k_M_line (45, [.ref 1000, .int x1, .int x2, .int x3, .int x4, am_ju], [.int r2], (zl sn sx, X, xr s1 G qg3 N A ug4 yg5 K hg6 tl, q)) oo
    rcases am_if hM with ⟨c4, hM⟩ | ⟨c4, hM⟩
    · refine am_ev.kt 4 71 52 [.ref 1000, .int x1, .int x2, .int x3, .int x4, .int r2] [.ref 1000] (zl sn sx, X, xr s1 G qg3 N A ug4 yg5 K hg6 tl, q) c4 (fun _ _ => rfl) ?_
      refine am_ev.wk (lv' := [.ref 1000, am_ju, am_ju, am_ju, .int x4, am_ju]) (am_lc (Or.inr rfl) (am_lc (Or.inl rfl) (am_lc (Or.inl rfl) (am_lc (Or.inl rfl) (am_lc (Or.inr rfl) (am_lc (Or.inl rfl) am_ln)))))) ?_
      exact sj_M_line_71 hx hM
    · refine am_ev.ke 4 71 52 [.ref 1000, .int x1, .int x2, .int x3, .int x4, .int r2] [.ref 1000] (zl sn sx, X, xr s1 G qg3 N A ug4 yg5 K hg6 tl, q) c4 (fun _ _ => rfl) ?_
      rcases am_if hM with ⟨c5, hM⟩ | ⟨c5, hM⟩
      · refine am_ev.kt 3 71 58 [.ref 1000, .int x1, .int x2, .int x3, .int x4, .int r2] [.ref 1000] (zl sn sx, X, xr s1 G qg3 N A ug4 yg5 K hg6 tl, q) c5 (fun _ _ => rfl) ?_
        refine am_ev.wk (lv' := [.ref 1000, am_ju, am_ju, am_ju, .int x4, am_ju]) (am_lc (Or.inr rfl) (am_lc (Or.inl rfl) (am_lc (Or.inl rfl) (am_lc (Or.inl rfl) (am_lc (Or.inr rfl) (am_lc (Or.inl rfl) am_ln)))))) ?_
        exact sj_M_line_71 hx hM
      · refine am_ev.ke 3 71 58 [.ref 1000, .int x1, .int x2, .int x3, .int x4, .int r2] [.ref 1000] (zl sn sx, X, xr s1 G qg3 N A ug4 yg5 K hg6 tl, q) c5 (fun _ _ => rfl) ?_
        rcases am_if hM with ⟨c6, hM⟩ | ⟨c6, hM⟩
        · refine am_ev.kt 2 71 63 [.ref 1000, .int x1, .int x2, .int x3, .int x4, .int r2] [.ref 1000] (zl sn sx, X, xr s1 G qg3 N A ug4 yg5 K hg6 tl, q) c6 (fun _ _ => rfl) ?_
          refine am_ev.wk (lv' := [.ref 1000, am_ju, am_ju, am_ju, .int x4, am_ju]) (am_lc (Or.inr rfl) (am_lc (Or.inl rfl) (am_lc (Or.inl rfl) (am_lc (Or.inl rfl) (am_lc (Or.inr rfl) (am_lc (Or.inl rfl) am_ln)))))) ?_
          exact sj_M_line_71 hx hM
        · refine am_ev.ke 2 71 63 [.ref 1000, .int x1, .int x2, .int x3, .int x4, .int r2] [.ref 1000] (zl sn sx, X, xr s1 G qg3 N A ug4 yg5 K hg6 tl, q) c6 (fun _ _ => rfl) ?_
          rcases am_if hM with ⟨c7, hM⟩ | ⟨c7, hM⟩
          · refine am_ev.kt 5 75 71 [.ref 1000, .int x1, .int x2, .int x3, .int x4, .int r2] [.ref 1000] (zl sn sx, X, xr s1 G qg3 N A ug4 yg5 K hg6 tl, q) c7 (fun _ _ => rfl) ?_
            refine am_ev.kg 1 (pc' := 76) (lv' := [.ref 1000, .int x1, .int x2, .int x3, .int x4, .int r2]) (st' := [.int (0 : Int32), .ref 1000]) (h' := (zl sn sx, X, xr s1 G qg3 N A ug4 yg5 K hg6 tl, q)) (fun _ _ => rfl) ?_
            refine am_ev.wk (lv' := [.ref 1000, am_ju, am_ju, am_ju, .int x4, am_ju]) (am_lc (Or.inr rfl) (am_lc (Or.inl rfl) (am_lc (Or.inl rfl) (am_lc (Or.inl rfl) (am_lc (Or.inr rfl) (am_lc (Or.inl rfl) am_ln)))))) ?_
            exact sj_M_line_76 hx hM
          · refine am_ev.ke 5 75 71 [.ref 1000, .int x1, .int x2, .int x3, .int x4, .int r2] [.ref 1000] (zl sn sx, X, xr s1 G qg3 N A ug4 yg5 K hg6 tl, q) c7 (fun _ _ => rfl) ?_
            refine am_ev.wk (lv' := [.ref 1000, am_ju, am_ju, am_ju, .int x4, am_ju]) (am_lc (Or.inr rfl) (am_lc (Or.inl rfl) (am_lc (Or.inl rfl) (am_lc (Or.inl rfl) (am_lc (Or.inr rfl) (am_lc (Or.inl rfl) am_ln)))))) ?_
            exact sj_M_line_71 hx hM
  · refine am_ev.ke 4 26 24 [.ref 1000, .int x1, .int x2, .int x3, .int x4, am_ju] [] (zl sn sx, X, xr s1 G Q N A U Y K H tl, q) c3 (fun _ _ => rfl) ?_
    cases hM
    cases hx
    exact am_ev.kf 2 (fun _ _ => rfl)
theorem se_M_line {fu : Nat} {sn : Nat} {sx : Nat → Int32} {X : List am_C} {q : Nat × Nat} {tl : List am_C} {E : ThT} {G : RtT} {Q : PoT} {N : NuT} {A : PaT} {U : UnT} {Y : LiT} {K : KeT} {H : HlT} {x1 : Int32} {x2 : Int32} {x3 : Int32} {x4 : Int32} {oo : am_O} {e : Int32 × ThT × PoT × UnT × LiT × HlT} (hx : y_M_line sn sx X q tl G N A K oo e) (hM : f_M_line fu x1 x2 x3 x4 E Q U Y H = some e) : am_ev 22 k_M_line (0, [.ref 1000, .int x1, .int x2, .int x3, .int x4, am_ju], [], (zl sn sx, X, xr E G Q N A U Y K H tl, q)) oo := by
  unfold f_M_line at hM
  obtain ⟨rr, hc, hM⟩ := am_bind hM
  obtain ⟨r1, rfl⟩ : ∃ z, z = rr := ⟨_, rfl⟩
  refine am_ev.kg 3 (pc' := 3) (lv' := [.ref 1000, .int x1, .int x2, .int x3, .int x4, am_ju]) (st' := [.int x2, .int x1, .ref 1000]) (h' := (zl sn sx, X, xr E G Q N A U Y K H tl, q)) (fun _ _ => rfl) ?_
  refine am_ev.call rfl rfl rfl ((s_M_isHelp hc).mono (by decide)) ?_
  show am_ev _ k_M_line (6, [.ref 1000, .int x1, .int x2, .int x3, .int x4, am_ju], [.int r1, .ref 1000], (zl sn sx, X, xr E G Q N A U Y K H tl, q)) oo
  rcases am_if hM with ⟨c8, hM⟩ | ⟨c8, hM⟩
  · refine am_ev.kt 1 13 9 [.ref 1000, .int x1, .int x2, .int x3, .int x4, am_ju] [.ref 1000] (zl sn sx, X, xr E G Q N A U Y K H tl, q) c8 (fun _ _ => rfl) ?_
    refine am_ev.kg 1 (pc' := 14) (lv' := [.ref 1000, .int x1, .int x2, .int x3, .int x4, am_ju]) (st' := [.int (1 : Int32), .ref 1000]) (h' := (zl sn sx, X, xr E G Q N A U Y K H tl, q)) (fun _ _ => rfl) ?_
    exact sj_M_line_14 hx hM
  · refine am_ev.ke 1 13 9 [.ref 1000, .int x1, .int x2, .int x3, .int x4, am_ju] [.ref 1000] (zl sn sx, X, xr E G Q N A U Y K H tl, q) c8 (fun _ _ => rfl) ?_
    refine am_ev.kg 2 (pc' := 14) (lv' := [.ref 1000, .int x1, .int x2, .int x3, .int x4, am_ju]) (st' := [.int (0 : Int32), .ref 1000]) (h' := (zl sn sx, X, xr E G Q N A U Y K H tl, q)) (fun _ _ => rfl) ?_
    exact sj_M_line_14 hx hM
theorem s_M_line {fu : Nat} {sn : Nat} {sx : Nat → Int32} {X : List am_C} {q : Nat × Nat} {tl : List am_C} {E : ThT} {G : RtT} {Q : PoT} {N : NuT} {A : PaT} {U : UnT} {Y : LiT} {K : KeT} {H : HlT} {x1 : Int32} {x2 : Int32} {x3 : Int32} {x4 : Int32} {ov : Int32} {oE : ThT} {oQ : PoT} {oU : UnT} {oY : LiT} {oH : HlT} (hM : f_M_line fu x1 x2 x3 x4 E Q U Y H = some (ov, oE, oQ, oU, oY, oH)) : am_cv 23 k_M_line [.ref 1000, .int x1, .int x2, .int x3, .int x4] (zl sn sx, X, xr E G Q N A U Y K H tl, q) (.inl (some (.int ov)), (zl sn sx, X, xr oE G oQ N A oU oY K oH tl, q)) := am_cv.of rfl (se_M_line (e := (ov, oE, oQ, oU, oY, oH)) (show y_M_line sn sx X q tl G N A K _ (ov, oE, oQ, oU, oY, oH) from rfl) hM)
def y_M_type (sn : Nat) (sx : Nat → Int32) (X : List am_C) (q : Nat × Nat) (tl : List am_C) (Q : PoT) (N : NuT) (A : PaT) (U : UnT) (Y : LiT) (K : KeT) (H : HlT) (oo : am_O) : Int32 × ThT × RtT → Prop
  | (ov, oE, oG) => oo = (.inl (some (.int ov)), (zl sn sx, X, xr oE oG Q N A U Y K H tl, q))
def x_M_type_32 (sn : Nat) (sx : Nat → Int32) (X : List am_C) (q : Nat × Nat) (tl : List am_C) (E : ThT) (G : RtT) (Q : PoT) (N : NuT) (A : PaT) (U : UnT) (Y : LiT) (K : KeT) (H : HlT) (l1 : Int64) (x3 : Int32) (oo : am_O) : ((Unit)) ⊕ (Int32 × ThT × RtT) → Prop
  | (.inl ()) => am_ev 1 k_M_type (77, [.ref 1000, .long l1, am_ju, .int x3, am_ju, am_ju, am_ju], [], (zl sn sx, X, xr E G Q N A U Y K H tl, q)) oo
  | .inr (ov, oE, oG) => oo = (.inl (some (.int ov)), (zl sn sx, X, xr oE oG Q N A U Y K H tl, q))
def x_M_type_80 (sn : Nat) (sx : Nat → Int32) (X : List am_C) (q : Nat × Nat) (tl : List am_C) (E : ThT) (Q : PoT) (N : NuT) (A : PaT) (U : UnT) (Y : LiT) (K : KeT) (H : HlT) (l1 : Int64) (x3 : Int32) (oo : am_O) : Int32 × ThT × RtT → Prop
  | (ov, oE, oG) => oo = (.inl (some (.int ov)), (zl sn sx, X, xr oE oG Q N A U Y K H tl, q))
theorem sb_M_type_32 {fu : Nat} {sn : Nat} {sx : Nat → Int32} {X : List am_C} {q : Nat × Nat} {tl : List am_C} {E : ThT} {G : RtT} {Q : PoT} {N : NuT} {A : PaT} {U : UnT} {Y : LiT} {K : KeT} {H : HlT} {l1 : Int64} {x3 : Int32} {oo : am_O} {e : ((Unit)) ⊕ (Int32 × ThT × RtT)} {gg : Int32 → Option (((Unit)) ⊕ (Int32 × ThT × RtT))} (hx : x_M_type_32 sn sx X q tl E G Q N A U Y K H l1 x3 oo e) (hg : ∀ (x4 : Int32), gg x4 = some e → am_ev 1 k_M_type (32, [.ref 1000, .long l1, am_ju, .int x3, .int x4, am_ju, am_ju], [], (zl sn sx, X, xr E G Q N A U Y K H tl, q)) oo) {x4 : Int32} (hM : b_M_type_32 fu E G l1 x3 gg x4 = some e) : am_ev 1 k_M_type (32, [.ref 1000, .long l1, am_ju, .int x3, .int x4, am_ju, am_ju], [], (zl sn sx, X, xr E G Q N A U Y K H tl, q)) oo := by
  unfold b_M_type_32 at hM
  rcases am_if hM with ⟨c1, hM⟩ | ⟨c1, hM⟩
  · refine am_ev.kt 3 77 38 [.ref 1000, .long l1, am_ju, .int x3, .int x4, am_ju, am_ju] [] (zl sn sx, X, xr E G Q N A U Y K H tl, q) c1 (fun _ _ => rfl) ?_
    refine am_ev.wk (lv' := [.ref 1000, .long l1, am_ju, .int x3, am_ju, am_ju, am_ju]) (am_lc (Or.inr rfl) (am_lc (Or.inr rfl) (am_lc (Or.inr rfl) (am_lc (Or.inr rfl) (am_lc (Or.inl rfl) (am_lc (Or.inr rfl) (am_lc (Or.inr rfl) am_ln))))))) ?_
    cases hM
    exact hx
  · refine am_ev.ke 3 77 38 [.ref 1000, .long l1, am_ju, .int x3, .int x4, am_ju, am_ju] [] (zl sn sx, X, xr E G Q N A U Y K H tl, q) c1 (fun _ _ => rfl) ?_
    rcases am_if hM with ⟨c2, hM⟩ | ⟨c2, hM⟩
    · refine am_ev.kt 12 69 60 [.ref 1000, .long l1, am_ju, .int x3, .int x4, .long ((am_shr l1 ((8 : Int32) * x4)) &&& (255 : Int64)), am_ju] [] (zl sn sx, X, xr E G Q N A U Y K H tl, q) c2 (fun _ _ => rfl) ?_
      cases hM
      cases hx
      exact am_ev.kf 2 (fun _ _ => rfl)
    · refine am_ev.ke 12 69 60 [.ref 1000, .long l1, am_ju, .int x3, .int x4, .long ((am_shr l1 ((8 : Int32) * x4)) &&& (255 : Int64)), am_ju] [] (zl sn sx, X, xr E G Q N A U Y K H tl, q) c2 (fun _ _ => rfl) ?_
      rcases am_if hM with ⟨c3, hM⟩ | ⟨c3, hM⟩
      · refine am_ev.kt 4 71 69 [.ref 1000, .long l1, am_ju, .int x3, .int x4, .long ((am_shr l1 ((8 : Int32) * x4)) &&& (255 : Int64)), am_ju] [] (zl sn sx, X, xr E G Q N A U Y K H tl, q) c3 (fun _ _ => rfl) ?_
        refine am_ev.kg 2 (pc' := 32) (lv' := [.ref 1000, .long l1, am_ju, .int x3, .int (x4 + (1 : Int32)), .long ((am_shr l1 ((8 : Int32) * x4)) &&& (255 : Int64)), am_ju]) (st' := []) (h' := (zl sn sx, X, xr E G Q N A U Y K H tl, q)) (fun _ _ => rfl) ?_
        refine am_ev.wk (lv' := [.ref 1000, .long l1, am_ju, .int x3, .int (x4 + (1 : Int32)), am_ju, am_ju]) (am_lc (Or.inr rfl) (am_lc (Or.inr rfl) (am_lc (Or.inr rfl) (am_lc (Or.inr rfl) (am_lc (Or.inr rfl) (am_lc (Or.inl rfl) (am_lc (Or.inr rfl) am_ln))))))) ?_
        exact hg _ hM
      · refine am_ev.ke 4 71 69 [.ref 1000, .long l1, am_ju, .int x3, .int x4, .long ((am_shr l1 ((8 : Int32) * x4)) &&& (255 : Int64)), am_ju] [] (zl sn sx, X, xr E G Q N A U Y K H tl, q) c3 (fun _ _ => rfl) ?_
        cases hM
        cases hx
        exact am_ev.kf 2 (fun _ _ => rfl)
theorem sl_M_type_32 {fu : Nat} {sn : Nat} {sx : Nat → Int32} {X : List am_C} {q : Nat × Nat} {tl : List am_C} {E : ThT} {G : RtT} {Q : PoT} {N : NuT} {A : PaT} {U : UnT} {Y : LiT} {K : KeT} {H : HlT} {l1 : Int64} {x3 : Int32} {oo : am_O} {e : ((Unit)) ⊕ (Int32 × ThT × RtT)} (hx : x_M_type_32 sn sx X q tl E G Q N A U Y K H l1 x3 oo e) : ∀ (n : Nat) (x4 : Int32), l_M_type_32 fu E G l1 x3 n x4 = some e → am_ev 1 k_M_type (32, [.ref 1000, .long l1, am_ju, .int x3, .int x4, am_ju, am_ju], [], (zl sn sx, X, xr E G Q N A U Y K H tl, q)) oo
  | 0, _, hM => by have h : (none : Option (((Unit)) ⊕ (Int32 × ThT × RtT))) = some e := hM; cases h
  | n + 1, _, hM => sb_M_type_32 hx (fun _ hM => sl_M_type_32 hx n _ hM) hM
theorem sb_M_type_80 {fu : Nat} {sn : Nat} {sx : Nat → Int32} {X : List am_C} {q : Nat × Nat} {tl : List am_C} {E : ThT} {Q : PoT} {N : NuT} {A : PaT} {U : UnT} {Y : LiT} {K : KeT} {H : HlT} {l1 : Int64} {x3 : Int32} {oo : am_O} {e : Int32 × ThT × RtT} {gg : Int32 → RtT → Option (Int32 × ThT × RtT)} (hx : x_M_type_80 sn sx X q tl E Q N A U Y K H l1 x3 oo e) (hg : ∀ (x4 : Int32) (G : RtT), gg x4 G = some e → am_ev 1 k_M_type (80, [.ref 1000, .long l1, am_ju, .int x3, .int x4, am_ju, am_ju], [], (zl sn sx, X, xr E G Q N A U Y K H tl, q)) oo) {x4 : Int32} {G : RtT} (hM : b_M_type_80 fu E l1 x3 gg x4 G = some e) : am_ev 1 k_M_type (80, [.ref 1000, .long l1, am_ju, .int x3, .int x4, am_ju, am_ju], [], (zl sn sx, X, xr E G Q N A U Y K H tl, q)) oo := by
  unfold b_M_type_80 at hM
  rcases am_if hM with ⟨c4, hM⟩ | ⟨c4, hM⟩
  · refine am_ev.kt 3 124 86 [.ref 1000, .long l1, am_ju, .int x3, .int x4, am_ju, am_ju] [] (zl sn sx, X, xr E G Q N A U Y K H tl, q) c4 (fun _ _ => rfl) ?_
    cases hM
    cases hx
    exact am_ev.kf 2 (fun _ _ => rfl)
  · refine am_ev.ke 3 124 86 [.ref 1000, .long l1, am_ju, .int x3, .int x4, am_ju, am_ju] [] (zl sn sx, X, xr E G Q N A U Y K H tl, q) c4 (fun _ _ => rfl) ?_
    obtain ⟨c5, hM⟩ := am_ifn hM
    refine am_ev.kc 14 108 [.ref 1000, .long l1, am_ju, .int x3, .int x4, am_ju, am_ju] [] (zl sn sx, X, xr E ((upd (rt_text G) ((rt_typed G)).toNatClampNeg (vp_nar .char (am_i2c (((am_shr l1 ((8 : Int32) * x4)) &&& (255 : Int64))).toInt32))), (rt_typed G)) Q N A U Y K H tl, q) c5 (fun _ _ => rfl) ?_
    refine am_ev.kg 8 (pc' := 80) (lv' := [.ref 1000, .long l1, am_ju, .int x3, .int (x4 + (1 : Int32)), am_ju, am_ju]) (st' := []) (h' := (zl sn sx, X, xr E ((upd (rt_text G) ((rt_typed G)).toNatClampNeg (vp_nar .char (am_i2c (((am_shr l1 ((8 : Int32) * x4)) &&& (255 : Int64))).toInt32))), ((rt_typed G) + (1 : Int32))) Q N A U Y K H tl, q)) (fun _ _ => rfl) ?_
    exact hg _ _ hM
theorem sl_M_type_80 {fu : Nat} {sn : Nat} {sx : Nat → Int32} {X : List am_C} {q : Nat × Nat} {tl : List am_C} {E : ThT} {Q : PoT} {N : NuT} {A : PaT} {U : UnT} {Y : LiT} {K : KeT} {H : HlT} {l1 : Int64} {x3 : Int32} {oo : am_O} {e : Int32 × ThT × RtT} (hx : x_M_type_80 sn sx X q tl E Q N A U Y K H l1 x3 oo e) : ∀ (n : Nat) (x4 : Int32) (G : RtT), l_M_type_80 fu E l1 x3 n x4 G = some e → am_ev 1 k_M_type (80, [.ref 1000, .long l1, am_ju, .int x3, .int x4, am_ju, am_ju], [], (zl sn sx, X, xr E G Q N A U Y K H tl, q)) oo
  | 0, _, _, hM => by have h : (none : Option (Int32 × ThT × RtT)) = some e := hM; cases h
  | n + 1, _, _, hM => sb_M_type_80 hx (fun _ _ hM => sl_M_type_80 hx n _ _ hM) hM
theorem sj_M_type_77 {fu : Nat} {sn : Nat} {sx : Nat → Int32} {X : List am_C} {q : Nat × Nat} {tl : List am_C} {E : ThT} {G : RtT} {Q : PoT} {N : NuT} {A : PaT} {U : UnT} {Y : LiT} {K : KeT} {H : HlT} {l1 : Int64} {x3 : Int32} {oo : am_O} {e : Int32 × ThT × RtT} (hx : y_M_type sn sx X q tl Q N A U Y K H oo e) (hM : j_M_type_77 fu E G l1 x3 = some e) : am_ev 1 k_M_type (77, [.ref 1000, .long l1, am_ju, .int x3, am_ju, am_ju, am_ju], [], (zl sn sx, X, xr E G Q N A U Y K H tl, q)) oo := by
  unfold j_M_type_77 at hM
  refine am_ev.kg 2 (pc' := 80) (lv' := [.ref 1000, .long l1, am_ju, .int x3, .int (0 : Int32), am_ju, am_ju]) (st' := []) (h' := (zl sn sx, X, xr E G Q N A U Y K H tl, q)) (fun _ _ => rfl) ?_
  obtain ⟨ov, oE, oG⟩ := e
  refine sl_M_type_80 ?_ _ _ _ hM
  exact hx
theorem se_M_type {fu : Nat} {sn : Nat} {sx : Nat → Int32} {X : List am_C} {q : Nat × Nat} {tl : List am_C} {E : ThT} {G : RtT} {Q : PoT} {N : NuT} {A : PaT} {U : UnT} {Y : LiT} {K : KeT} {H : HlT} {l1 : Int64} {x3 : Int32} {oo : am_O} {e : Int32 × ThT × RtT} (hx : y_M_type sn sx X q tl Q N A U Y K H oo e) (hM : f_M_type fu l1 x3 E G = some e) : am_ev 1 k_M_type (0, [.ref 1000, .long l1, am_ju, .int x3, am_ju, am_ju, am_ju], [], (zl sn sx, X, xr E G Q N A U Y K H tl, q)) oo := by
  unfold f_M_type at hM
  rcases am_if hM with ⟨c6, hM⟩ | ⟨c6, hM⟩
  · refine am_ev.kt 6 27 10 [.ref 1000, .long l1, am_ju, .int x3, am_ju, am_ju, am_ju] [] (zl sn sx, X, xr (0 : Int32) G Q N A U Y K H tl, q) c6 (fun _ _ => rfl) ?_
    cases hM
    cases hx
    exact am_ev.kf 2 (fun _ _ => rfl)
  · refine am_ev.ke 6 27 10 [.ref 1000, .long l1, am_ju, .int x3, am_ju, am_ju, am_ju] [] (zl sn sx, X, xr (0 : Int32) G Q N A U Y K H tl, q) c6 (fun _ _ => rfl) ?_
    rcases am_if hM with ⟨c7, hM⟩ | ⟨c7, hM⟩
    · refine am_ev.kt 3 27 16 [.ref 1000, .long l1, am_ju, .int x3, am_ju, am_ju, am_ju] [] (zl sn sx, X, xr (0 : Int32) G Q N A U Y K H tl, q) c7 (fun _ _ => rfl) ?_
      cases hM
      cases hx
      exact am_ev.kf 2 (fun _ _ => rfl)
    · refine am_ev.ke 3 27 16 [.ref 1000, .long l1, am_ju, .int x3, am_ju, am_ju, am_ju] [] (zl sn sx, X, xr (0 : Int32) G Q N A U Y K H tl, q) c7 (fun _ _ => rfl) ?_
      rcases am_if hM with ⟨c8, hM⟩ | ⟨c8, hM⟩
      · refine am_ev.kt 6 29 27 [.ref 1000, .long l1, am_ju, .int x3, am_ju, am_ju, am_ju] [] (zl sn sx, X, xr (0 : Int32) G Q N A U Y K H tl, q) c8 (fun _ _ => rfl) ?_
        refine am_ev.kg 2 (pc' := 32) (lv' := [.ref 1000, .long l1, am_ju, .int x3, .int (0 : Int32), am_ju, am_ju]) (st' := []) (h' := (zl sn sx, X, xr (0 : Int32) G Q N A U Y K H tl, q)) (fun _ _ => rfl) ?_
        obtain ⟨z, hz, hM⟩ := am_bind hM
        rcases z with z | z
        ·
          refine sl_M_type_32 ?_ _ _ hz
          show am_ev 1 k_M_type (77, [.ref 1000, .long l1, am_ju, .int x3, am_ju, am_ju, am_ju], [], (zl sn sx, X, xr (0 : Int32) G Q N A U Y K H tl, q)) oo
          exact sj_M_type_77 hx hM
        ·
          obtain ⟨ov, oE, oG⟩ := z
          cases hM
          refine sl_M_type_32 ?_ _ _ hz
          exact hx
      · refine am_ev.ke 6 29 27 [.ref 1000, .long l1, am_ju, .int x3, am_ju, am_ju, am_ju] [] (zl sn sx, X, xr (0 : Int32) G Q N A U Y K H tl, q) c8 (fun _ _ => rfl) ?_
        cases hM
        cases hx
        exact am_ev.kf 2 (fun _ _ => rfl)
theorem s_M_type {fu : Nat} {sn : Nat} {sx : Nat → Int32} {X : List am_C} {q : Nat × Nat} {tl : List am_C} {E : ThT} {G : RtT} {Q : PoT} {N : NuT} {A : PaT} {U : UnT} {Y : LiT} {K : KeT} {H : HlT} {l1 : Int64} {x3 : Int32} {ov : Int32} {oE : ThT} {oG : RtT} (hM : f_M_type fu l1 x3 E G = some (ov, oE, oG)) : am_cv 2 k_M_type [.ref 1000, .long l1, .int x3] (zl sn sx, X, xr E G Q N A U Y K H tl, q) (.inl (some (.int ov)), (zl sn sx, X, xr oE oG Q N A U Y K H tl, q)) := am_cv.of rfl (se_M_type (e := (ov, oE, oG)) (show y_M_type sn sx X q tl Q N A U Y K H _ (ov, oE, oG) from rfl) hM)
def y_M_cut (sn : Nat) (sx : Nat → Int32) (X : List am_C) (q : Nat × Nat) (tl : List am_C) (Q : PoT) (N : NuT) (A : PaT) (U : UnT) (Y : LiT) (K : KeT) (H : HlT) (oo : am_O) : Int32 × ThT × RtT → Prop
  | (ov, oE, oG) => oo = (.inl (some (.int ov)), (zl sn sx, X, xr oE oG Q N A U Y K H tl, q))
theorem se_M_cut {sn : Nat} {sx : Nat → Int32} {X : List am_C} {q : Nat × Nat} {tl : List am_C} {E : ThT} {G : RtT} {Q : PoT} {N : NuT} {A : PaT} {U : UnT} {Y : LiT} {K : KeT} {H : HlT} {x1 : Int32} {oo : am_O} {e : Int32 × ThT × RtT} (hx : y_M_cut sn sx X q tl Q N A U Y K H oo e) (hM : f_M_cut x1 E G = some e) : am_ev 1 k_M_cut (0, [.ref 1000, .int x1], [], (zl sn sx, X, xr E G Q N A U Y K H tl, q)) oo := by
  unfold f_M_cut at hM
  rcases am_if hM with ⟨c1, hM⟩ | ⟨c1, hM⟩
  · refine am_ev.kt 5 17 9 [.ref 1000, .int x1] [] (zl sn sx, X, xr (0 : Int32) G Q N A U Y K H tl, q) c1 (fun _ _ => rfl) ?_
    cases hM
    cases hx
    exact am_ev.kf 2 (fun _ _ => rfl)
  · refine am_ev.ke 5 17 9 [.ref 1000, .int x1] [] (zl sn sx, X, xr (0 : Int32) G Q N A U Y K H tl, q) c1 (fun _ _ => rfl) ?_
    rcases am_if hM with ⟨c2, hM⟩ | ⟨c2, hM⟩
    · refine am_ev.kt 4 19 17 [.ref 1000, .int x1] [] (zl sn sx, X, xr (0 : Int32) G Q N A U Y K H tl, q) c2 (fun _ _ => rfl) ?_
      cases hM
      cases hx
      exact am_ev.kf 5 (fun _ _ => rfl)
    · refine am_ev.ke 4 19 17 [.ref 1000, .int x1] [] (zl sn sx, X, xr (0 : Int32) G Q N A U Y K H tl, q) c2 (fun _ _ => rfl) ?_
      cases hM
      cases hx
      exact am_ev.kf 2 (fun _ _ => rfl)
theorem s_M_cut {sn : Nat} {sx : Nat → Int32} {X : List am_C} {q : Nat × Nat} {tl : List am_C} {E : ThT} {G : RtT} {Q : PoT} {N : NuT} {A : PaT} {U : UnT} {Y : LiT} {K : KeT} {H : HlT} {x1 : Int32} {ov : Int32} {oE : ThT} {oG : RtT} (hM : f_M_cut x1 E G = some (ov, oE, oG)) : am_cv 2 k_M_cut [.ref 1000, .int x1] (zl sn sx, X, xr E G Q N A U Y K H tl, q) (.inl (some (.int ov)), (zl sn sx, X, xr oE oG Q N A U Y K H tl, q)) := am_cv.of rfl (se_M_cut (e := (ov, oE, oG)) (show y_M_cut sn sx X q tl Q N A U Y K H _ (ov, oE, oG) from rfl) hM)
def y_M_sign (sn : Nat) (sx : Nat → Int32) (X : List am_C) (q : Nat × Nat) (tl : List am_C) (E : ThT) (G : RtT) (Q : PoT) (N : NuT) (A : PaT) (U : UnT) (Y : LiT) (K : KeT) (H : HlT) (oo : am_O) : Int32 → Prop
  | ov => oo = (.inl (some (.int ov)), (zl sn sx, X, xr E G Q N A U Y K H tl, q))
theorem se_M_sign {sn : Nat} {sx : Nat → Int32} {X : List am_C} {q : Nat × Nat} {tl : List am_C} {E : ThT} {G : RtT} {Q : PoT} {N : NuT} {A : PaT} {U : UnT} {Y : LiT} {K : KeT} {H : HlT} {x1 : Int32} {oo : am_O} {e : Int32} (hx : y_M_sign sn sx X q tl E G Q N A U Y K H oo e) (hM : f_M_sign x1 G = some e) : am_ev 1 k_M_sign (0, [.ref 1000, .int x1], [], (zl sn sx, X, xr E G Q N A U Y K H tl, q)) oo := by
  unfold f_M_sign at hM
  rcases am_if hM with ⟨c1, hM⟩ | ⟨c1, hM⟩
  · refine am_ev.kt 4 17 8 [.ref 1000, .int x1] [] (zl sn sx, X, xr E G Q N A U Y K H tl, q) c1 (fun _ _ => rfl) ?_
    cases hM
    cases hx
    exact am_ev.kf 2 (fun _ _ => rfl)
  · refine am_ev.ke 4 17 8 [.ref 1000, .int x1] [] (zl sn sx, X, xr E G Q N A U Y K H tl, q) c1 (fun _ _ => rfl) ?_
    obtain ⟨c2, hM⟩ := am_ifn hM
    refine am_ev.kc 4 14 [.ref 1000, .int x1] [.int ((rt_text G) (x1).toNatClampNeg)] (zl sn sx, X, xr E G Q N A U Y K H tl, q) c2 (fun _ _ => rfl) ?_
    cases hM
    cases hx
    exact am_ev.kf 2 (fun _ _ => rfl)
theorem s_M_sign {sn : Nat} {sx : Nat → Int32} {X : List am_C} {q : Nat × Nat} {tl : List am_C} {E : ThT} {G : RtT} {Q : PoT} {N : NuT} {A : PaT} {U : UnT} {Y : LiT} {K : KeT} {H : HlT} {x1 : Int32} {ov : Int32} (hM : f_M_sign x1 G = some ov) : am_cv 2 k_M_sign [.ref 1000, .int x1] (zl sn sx, X, xr E G Q N A U Y K H tl, q) (.inl (some (.int ov)), (zl sn sx, X, xr E G Q N A U Y K H tl, q)) := am_cv.of rfl (se_M_sign (e := ov) (show y_M_sign sn sx X q tl E G Q N A U Y K H _ ov from rfl) hM)
def y_M_letter (sn : Nat) (sx : Nat → Int32) (X : List am_C) (q : Nat × Nat) (tl : List am_C) (E : ThT) (G : RtT) (Q : PoT) (N : NuT) (A : PaT) (U : UnT) (Y : LiT) (K : KeT) (H : HlT) (oo : am_O) : Int32 → Prop
  | ov => oo = (.inl (some (.int ov)), (zl sn sx, X, xr E G Q N A U Y K H tl, q))
theorem sj_M_letter_70 {sn : Nat} {sx : Nat → Int32} {X : List am_C} {q : Nat × Nat} {tl : List am_C} {E : ThT} {G : RtT} {Q : PoT} {N : NuT} {A : PaT} {U : UnT} {Y : LiT} {K : KeT} {H : HlT} {x0 : Int32} {x1 : Int32} {oo : am_O} {e : Int32} (hx : y_M_letter sn sx X q tl E G Q N A U Y K H oo e) (hM : j_M_letter_70 x0 x1 = some e) : am_ev 2 k_M_letter (70, [.int x0, .int x1], [], (zl sn sx, X, xr E G Q N A U Y K H tl, q)) oo := by
  unfold j_M_letter_70 at hM
  rcases am_if hM with ⟨c1, hM⟩ | ⟨c1, hM⟩
  · refine am_ev.kt 3 80 76 [.int x0, .int x1] [] (zl sn sx, X, xr E G Q N A U Y K H tl, q) c1 (fun _ _ => rfl) ?_
    cases hM
    cases hx
    exact am_ev.kf 5 (fun _ _ => rfl)
  · refine am_ev.ke 3 80 76 [.int x0, .int x1] [] (zl sn sx, X, xr E G Q N A U Y K H tl, q) c1 (fun _ _ => rfl) ?_
    cases hM
    cases hx
    exact am_ev.kf 3 (fun _ _ => rfl)
theorem se_M_letter {sn : Nat} {sx : Nat → Int32} {X : List am_C} {q : Nat × Nat} {tl : List am_C} {E : ThT} {G : RtT} {Q : PoT} {N : NuT} {A : PaT} {U : UnT} {Y : LiT} {K : KeT} {H : HlT} {x0 : Int32} {oo : am_O} {e : Int32} (hx : y_M_letter sn sx X q tl E G Q N A U Y K H oo e) (hM : f_M_letter x0 = some e) : am_ev 2 k_M_letter (0, [.int x0, am_ju], [], (zl sn sx, X, xr E G Q N A U Y K H tl, q)) oo := by
  unfold f_M_letter at hM
  obtain ⟨rr, hc, hM⟩ := am_bind hM
  obtain ⟨r1, rfl⟩ : ∃ z, z = rr := ⟨_, rfl⟩
  refine am_ev.kg 3 (pc' := 4) (lv' := [.int x0, .int (80 : Int32)]) (st' := [.int x0]) (h' := (zl sn sx, X, xr E G Q N A U Y K H tl, q)) (fun _ _ => rfl) ?_
  refine am_ev.call rfl rfl rfl ((s_M_kind hc).mono (by decide)) ?_
  show am_ev _ k_M_letter (7, [.int x0, .int (80 : Int32)], [.int r1], (zl sn sx, X, xr E G Q N A U Y K H tl, q)) oo
  rcases am_if hM with ⟨c2, hM⟩ | ⟨c2, hM⟩
  · refine am_ev.kg 1 (pc' := 40) (lv' := [.int x0, .int (80 : Int32)]) (st' := []) (h' := (zl sn sx, X, xr E G Q N A U Y K H tl, q)) (fun call kk => (show am_kw call k_M_letter 1 kk _ _ _ _ = cond (decide (r1 = (2 : Int32))) (kk 40 [.int x0, .int (80 : Int32)] [] (zl sn sx, X, xr E G Q N A U Y K H tl, q)) (cond (decide (r1 = (3 : Int32))) (kk 46 [.int x0, .int (80 : Int32)] [] (zl sn sx, X, xr E G Q N A U Y K H tl, q)) (cond (decide (r1 = (4 : Int32))) (kk 52 [.int x0, .int (80 : Int32)] [] (zl sn sx, X, xr E G Q N A U Y K H tl, q)) (cond (decide (r1 = (5 : Int32))) (kk 58 [.int x0, .int (80 : Int32)] [] (zl sn sx, X, xr E G Q N A U Y K H tl, q)) (cond (decide (r1 = (6 : Int32))) (kk 64 [.int x0, .int (80 : Int32)] [] (zl sn sx, X, xr E G Q N A U Y K H tl, q)) (kk 70 [.int x0, .int (80 : Int32)] [] (zl sn sx, X, xr E G Q N A U Y K H tl, q)))))) from rfl).trans (by rw [decide_eq_true c2]; rfl)) ?_
    refine am_ev.kg 3 (pc' := 70) (lv' := [.int x0, .int (78 : Int32)]) (st' := []) (h' := (zl sn sx, X, xr E G Q N A U Y K H tl, q)) (fun _ _ => rfl) ?_
    exact sj_M_letter_70 hx hM
  · skip
    rcases am_if hM with ⟨c3, hM⟩ | ⟨c3, hM⟩
    · refine am_ev.kg 1 (pc' := 46) (lv' := [.int x0, .int (80 : Int32)]) (st' := []) (h' := (zl sn sx, X, xr E G Q N A U Y K H tl, q)) (fun call kk => (show am_kw call k_M_letter 1 kk _ _ _ _ = cond (decide (r1 = (2 : Int32))) (kk 40 [.int x0, .int (80 : Int32)] [] (zl sn sx, X, xr E G Q N A U Y K H tl, q)) (cond (decide (r1 = (3 : Int32))) (kk 46 [.int x0, .int (80 : Int32)] [] (zl sn sx, X, xr E G Q N A U Y K H tl, q)) (cond (decide (r1 = (4 : Int32))) (kk 52 [.int x0, .int (80 : Int32)] [] (zl sn sx, X, xr E G Q N A U Y K H tl, q)) (cond (decide (r1 = (5 : Int32))) (kk 58 [.int x0, .int (80 : Int32)] [] (zl sn sx, X, xr E G Q N A U Y K H tl, q)) (cond (decide (r1 = (6 : Int32))) (kk 64 [.int x0, .int (80 : Int32)] [] (zl sn sx, X, xr E G Q N A U Y K H tl, q)) (kk 70 [.int x0, .int (80 : Int32)] [] (zl sn sx, X, xr E G Q N A U Y K H tl, q)))))) from rfl).trans (by rw [decide_eq_false c2, decide_eq_true c3]; rfl)) ?_
      refine am_ev.kg 3 (pc' := 70) (lv' := [.int x0, .int (66 : Int32)]) (st' := []) (h' := (zl sn sx, X, xr E G Q N A U Y K H tl, q)) (fun _ _ => rfl) ?_
      exact sj_M_letter_70 hx hM
    · skip
      rcases am_if hM with ⟨c4, hM⟩ | ⟨c4, hM⟩
      · refine am_ev.kg 1 (pc' := 52) (lv' := [.int x0, .int (80 : Int32)]) (st' := []) (h' := (zl sn sx, X, xr E G Q N A U Y K H tl, q)) (fun call kk => (show am_kw call k_M_letter 1 kk _ _ _ _ = cond (decide (r1 = (2 : Int32))) (kk 40 [.int x0, .int (80 : Int32)] [] (zl sn sx, X, xr E G Q N A U Y K H tl, q)) (cond (decide (r1 = (3 : Int32))) (kk 46 [.int x0, .int (80 : Int32)] [] (zl sn sx, X, xr E G Q N A U Y K H tl, q)) (cond (decide (r1 = (4 : Int32))) (kk 52 [.int x0, .int (80 : Int32)] [] (zl sn sx, X, xr E G Q N A U Y K H tl, q)) (cond (decide (r1 = (5 : Int32))) (kk 58 [.int x0, .int (80 : Int32)] [] (zl sn sx, X, xr E G Q N A U Y K H tl, q)) (cond (decide (r1 = (6 : Int32))) (kk 64 [.int x0, .int (80 : Int32)] [] (zl sn sx, X, xr E G Q N A U Y K H tl, q)) (kk 70 [.int x0, .int (80 : Int32)] [] (zl sn sx, X, xr E G Q N A U Y K H tl, q)))))) from rfl).trans (by rw [decide_eq_false c2, decide_eq_false c3, decide_eq_true c4]; rfl)) ?_
        refine am_ev.kg 3 (pc' := 70) (lv' := [.int x0, .int (82 : Int32)]) (st' := []) (h' := (zl sn sx, X, xr E G Q N A U Y K H tl, q)) (fun _ _ => rfl) ?_
        exact sj_M_letter_70 hx hM
      · skip
        rcases am_if hM with ⟨c5, hM⟩ | ⟨c5, hM⟩
        · refine am_ev.kg 1 (pc' := 58) (lv' := [.int x0, .int (80 : Int32)]) (st' := []) (h' := (zl sn sx, X, xr E G Q N A U Y K H tl, q)) (fun call kk => (show am_kw call k_M_letter 1 kk _ _ _ _ = cond (decide (r1 = (2 : Int32))) (kk 40 [.int x0, .int (80 : Int32)] [] (zl sn sx, X, xr E G Q N A U Y K H tl, q)) (cond (decide (r1 = (3 : Int32))) (kk 46 [.int x0, .int (80 : Int32)] [] (zl sn sx, X, xr E G Q N A U Y K H tl, q)) (cond (decide (r1 = (4 : Int32))) (kk 52 [.int x0, .int (80 : Int32)] [] (zl sn sx, X, xr E G Q N A U Y K H tl, q)) (cond (decide (r1 = (5 : Int32))) (kk 58 [.int x0, .int (80 : Int32)] [] (zl sn sx, X, xr E G Q N A U Y K H tl, q)) (cond (decide (r1 = (6 : Int32))) (kk 64 [.int x0, .int (80 : Int32)] [] (zl sn sx, X, xr E G Q N A U Y K H tl, q)) (kk 70 [.int x0, .int (80 : Int32)] [] (zl sn sx, X, xr E G Q N A U Y K H tl, q)))))) from rfl).trans (by rw [decide_eq_false c2, decide_eq_false c3, decide_eq_false c4, decide_eq_true c5]; rfl)) ?_
          refine am_ev.kg 3 (pc' := 70) (lv' := [.int x0, .int (81 : Int32)]) (st' := []) (h' := (zl sn sx, X, xr E G Q N A U Y K H tl, q)) (fun _ _ => rfl) ?_
          exact sj_M_letter_70 hx hM
        · skip
          rcases am_if hM with ⟨c6, hM⟩ | ⟨c6, hM⟩
          · refine am_ev.kg 1 (pc' := 64) (lv' := [.int x0, .int (80 : Int32)]) (st' := []) (h' := (zl sn sx, X, xr E G Q N A U Y K H tl, q)) (fun call kk => (show am_kw call k_M_letter 1 kk _ _ _ _ = cond (decide (r1 = (2 : Int32))) (kk 40 [.int x0, .int (80 : Int32)] [] (zl sn sx, X, xr E G Q N A U Y K H tl, q)) (cond (decide (r1 = (3 : Int32))) (kk 46 [.int x0, .int (80 : Int32)] [] (zl sn sx, X, xr E G Q N A U Y K H tl, q)) (cond (decide (r1 = (4 : Int32))) (kk 52 [.int x0, .int (80 : Int32)] [] (zl sn sx, X, xr E G Q N A U Y K H tl, q)) (cond (decide (r1 = (5 : Int32))) (kk 58 [.int x0, .int (80 : Int32)] [] (zl sn sx, X, xr E G Q N A U Y K H tl, q)) (cond (decide (r1 = (6 : Int32))) (kk 64 [.int x0, .int (80 : Int32)] [] (zl sn sx, X, xr E G Q N A U Y K H tl, q)) (kk 70 [.int x0, .int (80 : Int32)] [] (zl sn sx, X, xr E G Q N A U Y K H tl, q)))))) from rfl).trans (by rw [decide_eq_false c2, decide_eq_false c3, decide_eq_false c4, decide_eq_false c5, decide_eq_true c6]; rfl)) ?_
            refine am_ev.kg 3 (pc' := 70) (lv' := [.int x0, .int (75 : Int32)]) (st' := []) (h' := (zl sn sx, X, xr E G Q N A U Y K H tl, q)) (fun _ _ => rfl) ?_
            exact sj_M_letter_70 hx hM
          · skip
            refine am_ev.kg 1 (pc' := 70) (lv' := [.int x0, .int (80 : Int32)]) (st' := []) (h' := (zl sn sx, X, xr E G Q N A U Y K H tl, q)) (fun call kk => (show am_kw call k_M_letter 1 kk _ _ _ _ = cond (decide (r1 = (2 : Int32))) (kk 40 [.int x0, .int (80 : Int32)] [] (zl sn sx, X, xr E G Q N A U Y K H tl, q)) (cond (decide (r1 = (3 : Int32))) (kk 46 [.int x0, .int (80 : Int32)] [] (zl sn sx, X, xr E G Q N A U Y K H tl, q)) (cond (decide (r1 = (4 : Int32))) (kk 52 [.int x0, .int (80 : Int32)] [] (zl sn sx, X, xr E G Q N A U Y K H tl, q)) (cond (decide (r1 = (5 : Int32))) (kk 58 [.int x0, .int (80 : Int32)] [] (zl sn sx, X, xr E G Q N A U Y K H tl, q)) (cond (decide (r1 = (6 : Int32))) (kk 64 [.int x0, .int (80 : Int32)] [] (zl sn sx, X, xr E G Q N A U Y K H tl, q)) (kk 70 [.int x0, .int (80 : Int32)] [] (zl sn sx, X, xr E G Q N A U Y K H tl, q)))))) from rfl).trans (by rw [decide_eq_false c2, decide_eq_false c3, decide_eq_false c4, decide_eq_false c5, decide_eq_false c6]; rfl)) ?_
            exact sj_M_letter_70 hx hM
theorem s_M_letter {sn : Nat} {sx : Nat → Int32} {X : List am_C} {q : Nat × Nat} {tl : List am_C} {E : ThT} {G : RtT} {Q : PoT} {N : NuT} {A : PaT} {U : UnT} {Y : LiT} {K : KeT} {H : HlT} {x0 : Int32} {ov : Int32} (hM : f_M_letter x0 = some ov) : am_cv 3 k_M_letter [.int x0] (zl sn sx, X, xr E G Q N A U Y K H tl, q) (.inl (some (.int ov)), (zl sn sx, X, xr E G Q N A U Y K H tl, q)) := am_cv.of rfl (se_M_letter (e := ov) (show y_M_letter sn sx X q tl E G Q N A U Y K H _ ov from rfl) hM)
def y_M_manOf (sn : Nat) (sx : Nat → Int32) (X : List am_C) (q : Nat × Nat) (tl : List am_C) (E : ThT) (G : RtT) (Q : PoT) (N : NuT) (A : PaT) (U : UnT) (Y : LiT) (K : KeT) (H : HlT) (oo : am_O) : Int32 → Prop
  | ov => oo = (.inl (some (.int ov)), (zl sn sx, X, xr E G Q N A U Y K H tl, q))
def x_M_manOf_4 (sn : Nat) (sx : Nat → Int32) (X : List am_C) (q : Nat × Nat) (tl : List am_C) (E : ThT) (G : RtT) (Q : PoT) (N : NuT) (A : PaT) (U : UnT) (Y : LiT) (K : KeT) (H : HlT) (x0 : Int32) (oo : am_O) : Int32 → Prop
  | ov => oo = (.inl (some (.int ov)), (zl sn sx, X, xr E G Q N A U Y K H tl, q))
theorem sj_M_manOf_39 {fu : Nat} {sn : Nat} {sx : Nat → Int32} {X : List am_C} {q : Nat × Nat} {tl : List am_C} {E : ThT} {G : RtT} {Q : PoT} {N : NuT} {A : PaT} {U : UnT} {Y : LiT} {K : KeT} {H : HlT} {x0 : Int32} {x2 : Int32} {s0 : Int32} {oo : am_O} {e : Int32} {gg : Int32 → Int32 → Option (Int32)} (hx : x_M_manOf_4 sn sx X q tl E G Q N A U Y K H x0 oo e) (hg : ∀ (x1 : Int32) (x2 : Int32), gg x1 x2 = some e → am_ev 3 k_M_manOf (4, [.int x0, .int x1, .int x2], [], (zl sn sx, X, xr E G Q N A U Y K H tl, q)) oo) (hM : j_M_manOf_39 fu gg x0 x2 s0 = some e) : am_ev 3 k_M_manOf (39, [.int x0, am_ju, .int x2], [.int s0], (zl sn sx, X, xr E G Q N A U Y K H tl, q)) oo := by
  unfold j_M_manOf_39 at hM
  refine am_ev.kg 3 (pc' := 4) (lv' := [.int x0, .int s0, .int (x2 + (1 : Int32))]) (st' := []) (h' := (zl sn sx, X, xr E G Q N A U Y K H tl, q)) (fun _ _ => rfl) ?_
  exact hg _ _ hM
theorem sj_M_manOf_38 {fu : Nat} {sn : Nat} {sx : Nat → Int32} {X : List am_C} {q : Nat × Nat} {tl : List am_C} {E : ThT} {G : RtT} {Q : PoT} {N : NuT} {A : PaT} {U : UnT} {Y : LiT} {K : KeT} {H : HlT} {x0 : Int32} {x1 : Int32} {x2 : Int32} {oo : am_O} {e : Int32} {gg : Int32 → Int32 → Option (Int32)} (hx : x_M_manOf_4 sn sx X q tl E G Q N A U Y K H x0 oo e) (hg : ∀ (x1 : Int32) (x2 : Int32), gg x1 x2 = some e → am_ev 3 k_M_manOf (4, [.int x0, .int x1, .int x2], [], (zl sn sx, X, xr E G Q N A U Y K H tl, q)) oo) (hM : j_M_manOf_38 fu gg x0 x1 x2 = some e) : am_ev 3 k_M_manOf (38, [.int x0, .int x1, .int x2], [], (zl sn sx, X, xr E G Q N A U Y K H tl, q)) oo := by
  unfold j_M_manOf_38 at hM
  refine am_ev.kg 1 (pc' := 39) (lv' := [.int x0, .int x1, .int x2]) (st' := [.int x1]) (h' := (zl sn sx, X, xr E G Q N A U Y K H tl, q)) (fun _ _ => rfl) ?_
  refine am_ev.wk (lv' := [.int x0, am_ju, .int x2]) (am_lc (Or.inr rfl) (am_lc (Or.inl rfl) (am_lc (Or.inr rfl) am_ln))) ?_
  exact sj_M_manOf_39 hx hg hM
theorem sb_M_manOf_4 {fu : Nat} {sn : Nat} {sx : Nat → Int32} {X : List am_C} {q : Nat × Nat} {tl : List am_C} {E : ThT} {G : RtT} {Q : PoT} {N : NuT} {A : PaT} {U : UnT} {Y : LiT} {K : KeT} {H : HlT} {x0 : Int32} {oo : am_O} {e : Int32} {gg : Int32 → Int32 → Option (Int32)} (hx : x_M_manOf_4 sn sx X q tl E G Q N A U Y K H x0 oo e) (hg : ∀ (x1 : Int32) (x2 : Int32), gg x1 x2 = some e → am_ev 3 k_M_manOf (4, [.int x0, .int x1, .int x2], [], (zl sn sx, X, xr E G Q N A U Y K H tl, q)) oo) {x1 : Int32} {x2 : Int32} (hM : b_M_manOf_4 fu x0 gg x1 x2 = some e) : am_ev 3 k_M_manOf (4, [.int x0, .int x1, .int x2], [], (zl sn sx, X, xr E G Q N A U Y K H tl, q)) oo := by
  unfold b_M_manOf_4 at hM
  rcases am_if hM with ⟨c1, hM⟩ | ⟨c1, hM⟩
  · refine am_ev.kt 3 46 10 [.int x0, .int x1, .int x2] [] (zl sn sx, X, xr E G Q N A U Y K H tl, q) c1 (fun _ _ => rfl) ?_
    cases hM
    cases hx
    exact am_ev.kf 2 (fun _ _ => rfl)
  · refine am_ev.ke 3 46 10 [.int x0, .int x1, .int x2] [] (zl sn sx, X, xr E G Q N A U Y K H tl, q) c1 (fun _ _ => rfl) ?_
    obtain ⟨rr, hc, hM⟩ := am_bind hM
    obtain ⟨r1, rfl⟩ : ∃ z, z = rr := ⟨_, rfl⟩
    refine am_ev.kg 1 (pc' := 11) (lv' := [.int x0, .int x1, .int x2]) (st' := [.int x2]) (h' := (zl sn sx, X, xr E G Q N A U Y K H tl, q)) (fun _ _ => rfl) ?_
    refine am_ev.call rfl rfl rfl ((s_M_kind hc).mono (by decide)) ?_
    show am_ev _ k_M_manOf (14, [.int x0, .int x1, .int x2], [.int r1], (zl sn sx, X, xr E G Q N A U Y K H tl, q)) oo
    rcases am_if hM with ⟨c2, hM⟩ | ⟨c2, hM⟩
    · refine am_ev.kt 1 38 17 [.int x0, .int x1, .int x2] [] (zl sn sx, X, xr E G Q N A U Y K H tl, q) c2 (fun _ _ => rfl) ?_
      exact sj_M_manOf_38 hx hg hM
    · refine am_ev.ke 1 38 17 [.int x0, .int x1, .int x2] [] (zl sn sx, X, xr E G Q N A U Y K H tl, q) c2 (fun _ _ => rfl) ?_
      obtain ⟨rr, hc, hM⟩ := am_bind hM
      obtain ⟨r2, rfl⟩ : ∃ z, z = rr := ⟨_, rfl⟩
      refine am_ev.kg 1 (pc' := 18) (lv' := [.int x0, .int x1, .int x2]) (st' := [.int x2]) (h' := (zl sn sx, X, xr E G Q N A U Y K H tl, q)) (fun _ _ => rfl) ?_
      refine am_ev.call rfl rfl rfl ((s_M_kind hc).mono (by decide)) ?_
      show am_ev _ k_M_manOf (21, [.int x0, .int x1, .int x2], [.int r2], (zl sn sx, X, xr E G Q N A U Y K H tl, q)) oo
      rcases am_if hM with ⟨c3, hM⟩ | ⟨c3, hM⟩
      · refine am_ev.kt 2 38 26 [.int x0, .int x1, .int x2] [] (zl sn sx, X, xr E G Q N A U Y K H tl, q) c3 (fun _ _ => rfl) ?_
        exact sj_M_manOf_38 hx hg hM
      · refine am_ev.ke 2 38 26 [.int x0, .int x1, .int x2] [] (zl sn sx, X, xr E G Q N A U Y K H tl, q) c3 (fun _ _ => rfl) ?_
        obtain ⟨rr, hc, hM⟩ := am_bind hM
        obtain ⟨r3, rfl⟩ : ∃ z, z = rr := ⟨_, rfl⟩
        refine am_ev.kg 1 (pc' := 27) (lv' := [.int x0, .int x1, .int x2]) (st' := [.int x2]) (h' := (zl sn sx, X, xr E G Q N A U Y K H tl, q)) (fun _ _ => rfl) ?_
        refine am_ev.call rfl rfl rfl ((s_M_letter hc).mono (by decide)) ?_
        show am_ev _ k_M_manOf (30, [.int x0, .int x1, .int x2], [.int r3], (zl sn sx, X, xr E G Q N A U Y K H tl, q)) oo
        rcases am_if hM with ⟨c4, hM⟩ | ⟨c4, hM⟩
        · refine am_ev.kt 2 38 34 [.int x0, .int x1, .int x2] [] (zl sn sx, X, xr E G Q N A U Y K H tl, q) c4 (fun _ _ => rfl) ?_
          exact sj_M_manOf_38 hx hg hM
        · refine am_ev.ke 2 38 34 [.int x0, .int x1, .int x2] [] (zl sn sx, X, xr E G Q N A U Y K H tl, q) c4 (fun _ _ => rfl) ?_
          refine am_ev.kg 2 (pc' := 39) (lv' := [.int x0, .int x1, .int x2]) (st' := [.int x2]) (h' := (zl sn sx, X, xr E G Q N A U Y K H tl, q)) (fun _ _ => rfl) ?_
          refine am_ev.wk (lv' := [.int x0, am_ju, .int x2]) (am_lc (Or.inr rfl) (am_lc (Or.inl rfl) (am_lc (Or.inr rfl) am_ln))) ?_
          exact sj_M_manOf_39 hx hg hM
theorem sl_M_manOf_4 {fu : Nat} {sn : Nat} {sx : Nat → Int32} {X : List am_C} {q : Nat × Nat} {tl : List am_C} {E : ThT} {G : RtT} {Q : PoT} {N : NuT} {A : PaT} {U : UnT} {Y : LiT} {K : KeT} {H : HlT} {x0 : Int32} {oo : am_O} {e : Int32} (hx : x_M_manOf_4 sn sx X q tl E G Q N A U Y K H x0 oo e) : ∀ (n : Nat) (x1 : Int32) (x2 : Int32), l_M_manOf_4 fu x0 n x1 x2 = some e → am_ev 3 k_M_manOf (4, [.int x0, .int x1, .int x2], [], (zl sn sx, X, xr E G Q N A U Y K H tl, q)) oo
  | 0, _, _, hM => by have h : (none : Option (Int32)) = some e := hM; cases h
  | n + 1, _, _, hM => sb_M_manOf_4 hx (fun _ _ hM => sl_M_manOf_4 hx n _ _ hM) hM
theorem se_M_manOf {fu : Nat} {sn : Nat} {sx : Nat → Int32} {X : List am_C} {q : Nat × Nat} {tl : List am_C} {E : ThT} {G : RtT} {Q : PoT} {N : NuT} {A : PaT} {U : UnT} {Y : LiT} {K : KeT} {H : HlT} {x0 : Int32} {oo : am_O} {e : Int32} (hx : y_M_manOf sn sx X q tl E G Q N A U Y K H oo e) (hM : f_M_manOf fu x0 = some e) : am_ev 3 k_M_manOf (0, [.int x0, am_ju, am_ju], [], (zl sn sx, X, xr E G Q N A U Y K H tl, q)) oo := by
  unfold f_M_manOf at hM
  refine am_ev.kg 4 (pc' := 4) (lv' := [.int x0, .int (0 : Int32), .int (1 : Int32)]) (st' := []) (h' := (zl sn sx, X, xr E G Q N A U Y K H tl, q)) (fun _ _ => rfl) ?_
  refine sl_M_manOf_4 ?_ _ _ _ hM
  exact hx
theorem s_M_manOf {fu : Nat} {sn : Nat} {sx : Nat → Int32} {X : List am_C} {q : Nat × Nat} {tl : List am_C} {E : ThT} {G : RtT} {Q : PoT} {N : NuT} {A : PaT} {U : UnT} {Y : LiT} {K : KeT} {H : HlT} {x0 : Int32} {ov : Int32} (hM : f_M_manOf fu x0 = some ov) : am_cv 4 k_M_manOf [.int x0] (zl sn sx, X, xr E G Q N A U Y K H tl, q) (.inl (some (.int ov)), (zl sn sx, X, xr E G Q N A U Y K H tl, q)) := am_cv.of rfl (se_M_manOf (e := ov) (show y_M_manOf sn sx X q tl E G Q N A U Y K H _ ov from rfl) hM)
def y_M_readMen (sn : Nat) (sx : Nat → Int32) (X : List am_C) (q : Nat × Nat) (tl : List am_C) (E : ThT) (G : RtT) (N : NuT) (A : PaT) (U : UnT) (Y : LiT) (K : KeT) (H : HlT) (oo : am_O) : Int32 × PoT → Prop
  | (ov, oQ) => oo = (.inl (some (.int ov)), (zl sn sx, X, xr E G oQ N A U Y K H tl, q))
def x_M_readMen_66 (sn : Nat) (sx : Nat → Int32) (X : List am_C) (q : Nat × Nat) (tl : List am_C) (E : ThT) (G : RtT) (N : NuT) (A : PaT) (U : UnT) (Y : LiT) (K : KeT) (H : HlT) (x1 : Int32) (x2 : Int32) (x3 : Int32) (x5 : Int32) (oo : am_O) : (PoT) → Prop
  | Q => am_ev 4 k_M_readMen (97, [.ref 1000, .int x1, .int x2, .int x3, am_ju, .int x5, am_ju], [], (zl sn sx, X, xr E G Q N A U Y K H tl, q)) oo
def x_M_readMen_14 (sn : Nat) (sx : Nat → Int32) (X : List am_C) (q : Nat × Nat) (tl : List am_C) (E : ThT) (G : RtT) (N : NuT) (A : PaT) (U : UnT) (Y : LiT) (K : KeT) (H : HlT) (x2 : Int32) (oo : am_O) : ((Int32 × PoT)) ⊕ (Int32 × PoT) → Prop
  | (.inl (x1, Q)) => am_ev 4 k_M_readMen (147, [.ref 1000, .int x1, .int x2, am_ju, am_ju, am_ju, am_ju], [], (zl sn sx, X, xr E G Q N A U Y K H tl, q)) oo
  | .inr (ov, oQ) => oo = (.inl (some (.int ov)), (zl sn sx, X, xr E G oQ N A U Y K H tl, q))
def x_M_readMen_5 (sn : Nat) (sx : Nat → Int32) (X : List am_C) (q : Nat × Nat) (tl : List am_C) (E : ThT) (G : RtT) (N : NuT) (A : PaT) (U : UnT) (Y : LiT) (K : KeT) (H : HlT) (oo : am_O) : Int32 × PoT → Prop
  | (ov, oQ) => oo = (.inl (some (.int ov)), (zl sn sx, X, xr E G oQ N A U Y K H tl, q))
theorem sb_M_readMen_66 {fu : Nat} {sn : Nat} {sx : Nat → Int32} {X : List am_C} {q : Nat × Nat} {tl : List am_C} {E : ThT} {G : RtT} {N : NuT} {A : PaT} {U : UnT} {Y : LiT} {K : KeT} {H : HlT} {x1 : Int32} {x2 : Int32} {x3 : Int32} {x5 : Int32} {oo : am_O} {e : (PoT)} {gg : Int32 → PoT → Option ((PoT))} (hx : x_M_readMen_66 sn sx X q tl E G N A U Y K H x1 x2 x3 x5 oo e) (hg : ∀ (x6 : Int32) (Q : PoT), gg x6 Q = some e → am_ev 4 k_M_readMen (66, [.ref 1000, .int x1, .int x2, .int x3, am_ju, .int x5, .int x6], [], (zl sn sx, X, xr E G Q N A U Y K H tl, q)) oo) {x6 : Int32} {Q : PoT} (hM : b_M_readMen_66 fu G x1 x2 x3 x5 gg x6 Q = some e) : am_ev 4 k_M_readMen (66, [.ref 1000, .int x1, .int x2, .int x3, am_ju, .int x5, .int x6], [], (zl sn sx, X, xr E G Q N A U Y K H tl, q)) oo := by
  unfold b_M_readMen_66 at hM
  rcases am_if hM with ⟨c1, hM⟩ | ⟨c1, hM⟩
  · refine am_ev.kt 5 97 76 [.ref 1000, .int x1, .int x2, .int x3, am_ju, .int x5, .int x6] [] (zl sn sx, X, xr E G Q N A U Y K H tl, q) c1 (fun _ _ => rfl) ?_
    refine am_ev.wk (lv' := [.ref 1000, .int x1, .int x2, .int x3, am_ju, .int x5, am_ju]) (am_lc (Or.inr rfl) (am_lc (Or.inr rfl) (am_lc (Or.inr rfl) (am_lc (Or.inr rfl) (am_lc (Or.inr rfl) (am_lc (Or.inr rfl) (am_lc (Or.inl rfl) am_ln))))))) ?_
    cases hM
    exact hx
  · refine am_ev.ke 5 97 76 [.ref 1000, .int x1, .int x2, .int x3, am_ju, .int x5, .int x6] [] (zl sn sx, X, xr E G Q N A U Y K H tl, q) c1 (fun _ _ => rfl) ?_
    obtain ⟨c2, hM⟩ := am_ifn hM
    refine am_ev.kc 11 91 [.ref 1000, .int x1, .int x2, .int x3, am_ju, .int x5, .int x6] [] (zl sn sx, X, xr E G ((upd (po_men Q) (((((8 : Int32) * x2) + x3) + x6)).toNatClampNeg (0 : Int32)), (po_side Q), (po_rights Q), (po_passed Q), (po_clock Q)) N A U Y K H tl, q) c2 (fun _ _ => rfl) ?_
    refine am_ev.kg 2 (pc' := 66) (lv' := [.ref 1000, .int x1, .int x2, .int x3, am_ju, .int x5, .int (x6 + (1 : Int32))]) (st' := []) (h' := (zl sn sx, X, xr E G ((upd (po_men Q) (((((8 : Int32) * x2) + x3) + x6)).toNatClampNeg (0 : Int32)), (po_side Q), (po_rights Q), (po_passed Q), (po_clock Q)) N A U Y K H tl, q)) (fun _ _ => rfl) ?_
    exact hg _ _ hM
theorem sl_M_readMen_66 {fu : Nat} {sn : Nat} {sx : Nat → Int32} {X : List am_C} {q : Nat × Nat} {tl : List am_C} {E : ThT} {G : RtT} {N : NuT} {A : PaT} {U : UnT} {Y : LiT} {K : KeT} {H : HlT} {x1 : Int32} {x2 : Int32} {x3 : Int32} {x5 : Int32} {oo : am_O} {e : (PoT)} (hx : x_M_readMen_66 sn sx X q tl E G N A U Y K H x1 x2 x3 x5 oo e) : ∀ (n : Nat) (x6 : Int32) (Q : PoT), l_M_readMen_66 fu G x1 x2 x3 x5 n x6 Q = some e → am_ev 4 k_M_readMen (66, [.ref 1000, .int x1, .int x2, .int x3, am_ju, .int x5, .int x6], [], (zl sn sx, X, xr E G Q N A U Y K H tl, q)) oo
  | 0, _, _, hM => by have h : (none : Option ((PoT))) = some e := hM; cases h
  | n + 1, _, _, hM => sb_M_readMen_66 hx (fun _ _ hM => sl_M_readMen_66 hx n _ _ hM) hM
theorem sj_M_readMen_163 {fu : Nat} {sn : Nat} {sx : Nat → Int32} {X : List am_C} {q : Nat × Nat} {tl : List am_C} {E : ThT} {G : RtT} {Q : PoT} {N : NuT} {A : PaT} {U : UnT} {Y : LiT} {K : KeT} {H : HlT} {x1 : Int32} {x2 : Int32} {s0 : Int32} {s1 : Int32} {oo : am_O} {e : Int32 × PoT} {gg : Int32 → Int32 → PoT → Option (Int32 × PoT)} (hx : x_M_readMen_5 sn sx X q tl E G N A U Y K H oo e) (hg : ∀ (x1 : Int32) (x2 : Int32) (Q : PoT), gg x1 x2 Q = some e → am_ev 4 k_M_readMen (5, [.ref 1000, .int x1, .int x2, am_ju, am_ju, am_ju, am_ju], [], (zl sn sx, X, xr E G Q N A U Y K H tl, q)) oo) (hM : j_M_readMen_163 fu gg G Q x1 x2 s0 s1 = some e) : am_ev 4 k_M_readMen (163, [.ref 1000, .int x1, .int x2, am_ju, am_ju, am_ju, am_ju], [.int s1, .int s0], (zl sn sx, X, xr E G Q N A U Y K H tl, q)) oo := by
  unfold j_M_readMen_163 at hM
  rcases am_if hM with ⟨c3, hM⟩ | ⟨c3, hM⟩
  · refine am_ev.kt 1 168 166 [.ref 1000, .int x1, .int x2, am_ju, am_ju, am_ju, am_ju] [] (zl sn sx, X, xr E G Q N A U Y K H tl, q) c3 (fun _ _ => rfl) ?_
    refine am_ev.kg 3 (pc' := 5) (lv' := [.ref 1000, .int (x1 + (1 : Int32)), .int (x2 + (-1 : Int32)), am_ju, am_ju, am_ju, am_ju]) (st' := []) (h' := (zl sn sx, X, xr E G Q N A U Y K H tl, q)) (fun _ _ => rfl) ?_
    exact hg _ _ _ hM
  · refine am_ev.ke 1 168 166 [.ref 1000, .int x1, .int x2, am_ju, am_ju, am_ju, am_ju] [] (zl sn sx, X, xr E G Q N A U Y K H tl, q) c3 (fun _ _ => rfl) ?_
    cases hM
    cases hx
    exact am_ev.kf 2 (fun _ _ => rfl)
theorem sj_M_readMen_144 {fu : Nat} {sn : Nat} {sx : Nat → Int32} {X : List am_C} {q : Nat × Nat} {tl : List am_C} {E : ThT} {G : RtT} {Q : PoT} {N : NuT} {A : PaT} {U : UnT} {Y : LiT} {K : KeT} {H : HlT} {x1 : Int32} {x2 : Int32} {x3 : Int32} {x4 : Int32} {oo : am_O} {e : ((Int32 × PoT)) ⊕ (Int32 × PoT)} {gg : Int32 → Int32 → Int32 → PoT → Option (((Int32 × PoT)) ⊕ (Int32 × PoT))} (hx : x_M_readMen_14 sn sx X q tl E G N A U Y K H x2 oo e) (hg : ∀ (x1 : Int32) (x3 : Int32) (x4 : Int32) (Q : PoT), gg x1 x3 x4 Q = some e → am_ev 4 k_M_readMen (14, [.ref 1000, .int x1, .int x2, .int x3, .int x4, am_ju, am_ju], [], (zl sn sx, X, xr E G Q N A U Y K H tl, q)) oo) (hM : j_M_readMen_144 fu gg G Q x1 x2 x3 x4 = some e) : am_ev 4 k_M_readMen (144, [.ref 1000, .int x1, .int x2, .int x3, .int x4, am_ju, am_ju], [], (zl sn sx, X, xr E G Q N A U Y K H tl, q)) oo := by
  unfold j_M_readMen_144 at hM
  refine am_ev.kg 1 (pc' := 14) (lv' := [.ref 1000, .int x1, .int x2, .int x3, .int x4, am_ju, am_ju]) (st' := []) (h' := (zl sn sx, X, xr E G Q N A U Y K H tl, q)) (fun _ _ => rfl) ?_
  exact hg _ _ _ _ hM
theorem sj_M_readMen_97 {fu : Nat} {sn : Nat} {sx : Nat → Int32} {X : List am_C} {q : Nat × Nat} {tl : List am_C} {E : ThT} {G : RtT} {Q : PoT} {N : NuT} {A : PaT} {U : UnT} {Y : LiT} {K : KeT} {H : HlT} {x1 : Int32} {x2 : Int32} {x3 : Int32} {x5 : Int32} {oo : am_O} {e : ((Int32 × PoT)) ⊕ (Int32 × PoT)} {gg : Int32 → Int32 → Int32 → PoT → Option (((Int32 × PoT)) ⊕ (Int32 × PoT))} (hx : x_M_readMen_14 sn sx X q tl E G N A U Y K H x2 oo e) (hg : ∀ (x1 : Int32) (x3 : Int32) (x4 : Int32) (Q : PoT), gg x1 x3 x4 Q = some e → am_ev 4 k_M_readMen (14, [.ref 1000, .int x1, .int x2, .int x3, .int x4, am_ju, am_ju], [], (zl sn sx, X, xr E G Q N A U Y K H tl, q)) oo) (hM : j_M_readMen_97 fu gg G Q x1 x2 x3 x5 = some e) : am_ev 4 k_M_readMen (97, [.ref 1000, .int x1, .int x2, .int x3, am_ju, .int x5, am_ju], [], (zl sn sx, X, xr E G Q N A U Y K H tl, q)) oo := by
  unfold j_M_readMen_97 at hM
  refine am_ev.kg 9 (pc' := 144) (lv' := [.ref 1000, .int x1, .int x2, .int ((x3 + x5) - (48 : Int32)), .int (1 : Int32), .int x5, am_ju]) (st' := []) (h' := (zl sn sx, X, xr E G Q N A U Y K H tl, q)) (fun _ _ => rfl) ?_
  refine am_ev.wk (lv' := [.ref 1000, .int x1, .int x2, .int ((x3 + x5) - (48 : Int32)), .int (1 : Int32), am_ju, am_ju]) (am_lc (Or.inr rfl) (am_lc (Or.inr rfl) (am_lc (Or.inr rfl) (am_lc (Or.inr rfl) (am_lc (Or.inr rfl) (am_lc (Or.inl rfl) (am_lc (Or.inr rfl) am_ln))))))) ?_
  exact sj_M_readMen_144 hx hg hM
theorem sj_M_readMen_147 {fu : Nat} {sn : Nat} {sx : Nat → Int32} {X : List am_C} {q : Nat × Nat} {tl : List am_C} {E : ThT} {G : RtT} {Q : PoT} {N : NuT} {A : PaT} {U : UnT} {Y : LiT} {K : KeT} {H : HlT} {x1 : Int32} {x2 : Int32} {oo : am_O} {e : Int32 × PoT} {gg : Int32 → Int32 → PoT → Option (Int32 × PoT)} (hx : x_M_readMen_5 sn sx X q tl E G N A U Y K H oo e) (hg : ∀ (x1 : Int32) (x2 : Int32) (Q : PoT), gg x1 x2 Q = some e → am_ev 4 k_M_readMen (5, [.ref 1000, .int x1, .int x2, am_ju, am_ju, am_ju, am_ju], [], (zl sn sx, X, xr E G Q N A U Y K H tl, q)) oo) (hM : j_M_readMen_147 fu gg G Q x1 x2 = some e) : am_ev 4 k_M_readMen (147, [.ref 1000, .int x1, .int x2, am_ju, am_ju, am_ju, am_ju], [], (zl sn sx, X, xr E G Q N A U Y K H tl, q)) oo := by
  unfold j_M_readMen_147 at hM
  obtain ⟨rr, hc, hM⟩ := am_bind hM
  obtain ⟨r2, rfl⟩ : ∃ z, z = rr := ⟨_, rfl⟩
  refine am_ev.kg 2 (pc' := 149) (lv' := [.ref 1000, .int x1, .int x2, am_ju, am_ju, am_ju, am_ju]) (st' := [.int x1, .ref 1000]) (h' := (zl sn sx, X, xr E G Q N A U Y K H tl, q)) (fun _ _ => rfl) ?_
  refine am_ev.call rfl rfl rfl ((s_M_sign hc).mono (by decide)) ?_
  show am_ev _ k_M_readMen (152, [.ref 1000, .int x1, .int x2, am_ju, am_ju, am_ju, am_ju], [.int r2], (zl sn sx, X, xr E G Q N A U Y K H tl, q)) oo
  rcases am_if hM with ⟨c4, hM⟩ | ⟨c4, hM⟩
  · refine am_ev.kt 2 161 156 [.ref 1000, .int x1, .int x2, am_ju, am_ju, am_ju, am_ju] [.int r2] (zl sn sx, X, xr E G Q N A U Y K H tl, q) c4 (fun _ _ => rfl) ?_
    refine am_ev.kg 1 (pc' := 163) (lv' := [.ref 1000, .int x1, .int x2, am_ju, am_ju, am_ju, am_ju]) (st' := [.int (32 : Int32), .int r2]) (h' := (zl sn sx, X, xr E G Q N A U Y K H tl, q)) (fun _ _ => rfl) ?_
    exact sj_M_readMen_163 hx hg hM
  · refine am_ev.ke 2 161 156 [.ref 1000, .int x1, .int x2, am_ju, am_ju, am_ju, am_ju] [.int r2] (zl sn sx, X, xr E G Q N A U Y K H tl, q) c4 (fun _ _ => rfl) ?_
    refine am_ev.kg 2 (pc' := 163) (lv' := [.ref 1000, .int x1, .int x2, am_ju, am_ju, am_ju, am_ju]) (st' := [.int (47 : Int32), .int r2]) (h' := (zl sn sx, X, xr E G Q N A U Y K H tl, q)) (fun _ _ => rfl) ?_
    exact sj_M_readMen_163 hx hg hM
theorem sj_M_readMen_111 {fu : Nat} {sn : Nat} {sx : Nat → Int32} {X : List am_C} {q : Nat × Nat} {tl : List am_C} {E : ThT} {G : RtT} {Q : PoT} {N : NuT} {A : PaT} {U : UnT} {Y : LiT} {K : KeT} {H : HlT} {x1 : Int32} {x2 : Int32} {x3 : Int32} {x5 : Int32} {oo : am_O} {e : ((Int32 × PoT)) ⊕ (Int32 × PoT)} {gg : Int32 → Int32 → Int32 → PoT → Option (((Int32 × PoT)) ⊕ (Int32 × PoT))} (hx : x_M_readMen_14 sn sx X q tl E G N A U Y K H x2 oo e) (hg : ∀ (x1 : Int32) (x3 : Int32) (x4 : Int32) (Q : PoT), gg x1 x3 x4 Q = some e → am_ev 4 k_M_readMen (14, [.ref 1000, .int x1, .int x2, .int x3, .int x4, am_ju, am_ju], [], (zl sn sx, X, xr E G Q N A U Y K H tl, q)) oo) (hM : j_M_readMen_111 fu gg G Q x1 x2 x3 x5 = some e) : am_ev 4 k_M_readMen (111, [.ref 1000, .int x1, .int x2, .int x3, am_ju, .int x5, am_ju], [], (zl sn sx, X, xr E G Q N A U Y K H tl, q)) oo := by
  unfold j_M_readMen_111 at hM
  obtain ⟨rr, hc, hM⟩ := am_bind hM
  obtain ⟨r3, rfl⟩ : ∃ z, z = rr := ⟨_, rfl⟩
  refine am_ev.kg 1 (pc' := 113) (lv' := [.ref 1000, .int x1, .int x2, .int x3, am_ju, .int x5, am_ju]) (st' := [.int x5]) (h' := (zl sn sx, X, xr E G Q N A U Y K H tl, q)) (fun _ _ => rfl) ?_
  refine am_ev.call rfl rfl rfl ((s_M_manOf hc).mono (by decide)) ?_
  show am_ev _ k_M_readMen (116, [.ref 1000, .int x1, .int x2, .int x3, am_ju, .int x5, am_ju], [.int r3], (zl sn sx, X, xr E G Q N A U Y K H tl, q)) oo
  rcases am_if hM with ⟨c5, hM⟩ | ⟨c5, hM⟩
  · refine am_ev.kt 3 125 123 [.ref 1000, .int x1, .int x2, .int x3, am_ju, .int x5, .int r3] [] (zl sn sx, X, xr E G Q N A U Y K H tl, q) c5 (fun _ _ => rfl) ?_
    obtain ⟨c6, hM⟩ := am_ifn hM
    refine am_ev.kc 9 138 [.ref 1000, .int x1, .int x2, .int x3, am_ju, .int x5, .int r3] [] (zl sn sx, X, xr E G ((upd (po_men Q) ((((8 : Int32) * x2) + x3)).toNatClampNeg r3), (po_side Q), (po_rights Q), (po_passed Q), (po_clock Q)) N A U Y K H tl, q) c6 (fun _ _ => rfl) ?_
    refine am_ev.kg 3 (pc' := 144) (lv' := [.ref 1000, .int x1, .int x2, .int (x3 + (1 : Int32)), .int (0 : Int32), .int x5, .int r3]) (st' := []) (h' := (zl sn sx, X, xr E G ((upd (po_men Q) ((((8 : Int32) * x2) + x3)).toNatClampNeg r3), (po_side Q), (po_rights Q), (po_passed Q), (po_clock Q)) N A U Y K H tl, q)) (fun _ _ => rfl) ?_
    refine am_ev.wk (lv' := [.ref 1000, .int x1, .int x2, .int (x3 + (1 : Int32)), .int (0 : Int32), am_ju, am_ju]) (am_lc (Or.inr rfl) (am_lc (Or.inr rfl) (am_lc (Or.inr rfl) (am_lc (Or.inr rfl) (am_lc (Or.inr rfl) (am_lc (Or.inl rfl) (am_lc (Or.inl rfl) am_ln))))))) ?_
    exact sj_M_readMen_144 hx hg hM
  · refine am_ev.ke 3 125 123 [.ref 1000, .int x1, .int x2, .int x3, am_ju, .int x5, .int r3] [] (zl sn sx, X, xr E G Q N A U Y K H tl, q) c5 (fun _ _ => rfl) ?_
    cases hM
    cases hx
    exact am_ev.kf 2 (fun _ _ => rfl)
theorem sb_M_readMen_14 {fu : Nat} {sn : Nat} {sx : Nat → Int32} {X : List am_C} {q : Nat × Nat} {tl : List am_C} {E : ThT} {G : RtT} {N : NuT} {A : PaT} {U : UnT} {Y : LiT} {K : KeT} {H : HlT} {x2 : Int32} {oo : am_O} {e : ((Int32 × PoT)) ⊕ (Int32 × PoT)} {gg : Int32 → Int32 → Int32 → PoT → Option (((Int32 × PoT)) ⊕ (Int32 × PoT))} (hx : x_M_readMen_14 sn sx X q tl E G N A U Y K H x2 oo e) (hg : ∀ (x1 : Int32) (x3 : Int32) (x4 : Int32) (Q : PoT), gg x1 x3 x4 Q = some e → am_ev 4 k_M_readMen (14, [.ref 1000, .int x1, .int x2, .int x3, .int x4, am_ju, am_ju], [], (zl sn sx, X, xr E G Q N A U Y K H tl, q)) oo) {x1 : Int32} {x3 : Int32} {x4 : Int32} {Q : PoT} (hM : b_M_readMen_14 fu G x2 gg x1 x3 x4 Q = some e) : am_ev 4 k_M_readMen (14, [.ref 1000, .int x1, .int x2, .int x3, .int x4, am_ju, am_ju], [], (zl sn sx, X, xr E G Q N A U Y K H tl, q)) oo := by
  unfold b_M_readMen_14 at hM
  rcases am_if hM with ⟨c7, hM⟩ | ⟨c7, hM⟩
  · refine am_ev.kt 3 147 20 [.ref 1000, .int x1, .int x2, .int x3, .int x4, am_ju, am_ju] [] (zl sn sx, X, xr E G Q N A U Y K H tl, q) c7 (fun _ _ => rfl) ?_
    refine am_ev.wk (lv' := [.ref 1000, .int x1, .int x2, am_ju, am_ju, am_ju, am_ju]) (am_lc (Or.inr rfl) (am_lc (Or.inr rfl) (am_lc (Or.inr rfl) (am_lc (Or.inl rfl) (am_lc (Or.inl rfl) (am_lc (Or.inr rfl) (am_lc (Or.inr rfl) am_ln))))))) ?_
    cases hM
    exact hx
  · refine am_ev.ke 3 147 20 [.ref 1000, .int x1, .int x2, .int x3, .int x4, am_ju, am_ju] [] (zl sn sx, X, xr E G Q N A U Y K H tl, q) c7 (fun _ _ => rfl) ?_
    obtain ⟨rr, hc, hM⟩ := am_bind hM
    obtain ⟨r1, rfl⟩ : ∃ z, z = rr := ⟨_, rfl⟩
    refine am_ev.kg 2 (pc' := 22) (lv' := [.ref 1000, .int x1, .int x2, .int x3, .int x4, am_ju, am_ju]) (st' := [.int x1, .ref 1000]) (h' := (zl sn sx, X, xr E G Q N A U Y K H tl, q)) (fun _ _ => rfl) ?_
    refine am_ev.call rfl rfl rfl ((s_M_sign hc).mono (by decide)) ?_
    show am_ev _ k_M_readMen (25, [.ref 1000, .int x1, .int x2, .int x3, .int x4, am_ju, am_ju], [.int r1], (zl sn sx, X, xr E G Q N A U Y K H tl, q)) oo
    rcases am_if hM with ⟨c8, hM⟩ | ⟨c8, hM⟩
    · refine am_ev.kt 5 111 37 [.ref 1000, .int (x1 + (1 : Int32)), .int x2, .int x3, .int x4, .int r1, am_ju] [] (zl sn sx, X, xr E G Q N A U Y K H tl, q) c8 (fun _ _ => rfl) ?_
      refine am_ev.wk (lv' := [.ref 1000, .int (x1 + (1 : Int32)), .int x2, .int x3, am_ju, .int r1, am_ju]) (am_lc (Or.inr rfl) (am_lc (Or.inr rfl) (am_lc (Or.inr rfl) (am_lc (Or.inr rfl) (am_lc (Or.inl rfl) (am_lc (Or.inr rfl) (am_lc (Or.inr rfl) am_ln))))))) ?_
      exact sj_M_readMen_111 hx hg hM
    · refine am_ev.ke 5 111 37 [.ref 1000, .int (x1 + (1 : Int32)), .int x2, .int x3, .int x4, .int r1, am_ju] [] (zl sn sx, X, xr E G Q N A U Y K H tl, q) c8 (fun _ _ => rfl) ?_
      rcases am_if hM with ⟨c9, hM⟩ | ⟨c9, hM⟩
      · refine am_ev.kt 3 111 44 [.ref 1000, .int (x1 + (1 : Int32)), .int x2, .int x3, .int x4, .int r1, am_ju] [] (zl sn sx, X, xr E G Q N A U Y K H tl, q) c9 (fun _ _ => rfl) ?_
        refine am_ev.wk (lv' := [.ref 1000, .int (x1 + (1 : Int32)), .int x2, .int x3, am_ju, .int r1, am_ju]) (am_lc (Or.inr rfl) (am_lc (Or.inr rfl) (am_lc (Or.inr rfl) (am_lc (Or.inr rfl) (am_lc (Or.inl rfl) (am_lc (Or.inr rfl) (am_lc (Or.inr rfl) am_ln))))))) ?_
        exact sj_M_readMen_111 hx hg hM
      · refine am_ev.ke 3 111 44 [.ref 1000, .int (x1 + (1 : Int32)), .int x2, .int x3, .int x4, .int r1, am_ju] [] (zl sn sx, X, xr E G Q N A U Y K H tl, q) c9 (fun _ _ => rfl) ?_
        rcases am_if hM with ⟨c10, hM⟩ | ⟨c10, hM⟩
        · refine am_ev.kt 2 61 49 [.ref 1000, .int (x1 + (1 : Int32)), .int x2, .int x3, .int x4, .int r1, am_ju] [] (zl sn sx, X, xr E G Q N A U Y K H tl, q) c10 (fun _ _ => rfl) ?_
          cases hM
          cases hx
          exact am_ev.kf 2 (fun _ _ => rfl)
        · refine am_ev.ke 2 61 49 [.ref 1000, .int (x1 + (1 : Int32)), .int x2, .int x3, .int x4, .int r1, am_ju] [] (zl sn sx, X, xr E G Q N A U Y K H tl, q) c10 (fun _ _ => rfl) ?_
          rcases am_if hM with ⟨c11, hM⟩ | ⟨c11, hM⟩
          · refine am_ev.kt 7 63 61 [.ref 1000, .int (x1 + (1 : Int32)), .int x2, .int x3, .int x4, .int r1, am_ju] [] (zl sn sx, X, xr E G Q N A U Y K H tl, q) c11 (fun _ _ => rfl) ?_
            refine am_ev.kg 2 (pc' := 66) (lv' := [.ref 1000, .int (x1 + (1 : Int32)), .int x2, .int x3, .int x4, .int r1, .int (0 : Int32)]) (st' := []) (h' := (zl sn sx, X, xr E G Q N A U Y K H tl, q)) (fun _ _ => rfl) ?_
            refine am_ev.wk (lv' := [.ref 1000, .int (x1 + (1 : Int32)), .int x2, .int x3, am_ju, .int r1, .int (0 : Int32)]) (am_lc (Or.inr rfl) (am_lc (Or.inr rfl) (am_lc (Or.inr rfl) (am_lc (Or.inr rfl) (am_lc (Or.inl rfl) (am_lc (Or.inr rfl) (am_lc (Or.inr rfl) am_ln))))))) ?_
            obtain ⟨z, hz, hM⟩ := am_bind hM
            obtain ⟨qz_1, rfl⟩ : ∃ y, y = z := ⟨_, rfl⟩
            refine sl_M_readMen_66 ?_ _ _ _ hz
            show am_ev 4 k_M_readMen (97, [.ref 1000, .int (x1 + (1 : Int32)), .int x2, .int x3, am_ju, .int r1, am_ju], [], (zl sn sx, X, xr E G qz_1 N A U Y K H tl, q)) oo
            exact sj_M_readMen_97 hx hg hM
          · refine am_ev.ke 7 63 61 [.ref 1000, .int (x1 + (1 : Int32)), .int x2, .int x3, .int x4, .int r1, am_ju] [] (zl sn sx, X, xr E G Q N A U Y K H tl, q) c11 (fun _ _ => rfl) ?_
            cases hM
            cases hx
            exact am_ev.kf 2 (fun _ _ => rfl)
theorem sl_M_readMen_14 {fu : Nat} {sn : Nat} {sx : Nat → Int32} {X : List am_C} {q : Nat × Nat} {tl : List am_C} {E : ThT} {G : RtT} {N : NuT} {A : PaT} {U : UnT} {Y : LiT} {K : KeT} {H : HlT} {x2 : Int32} {oo : am_O} {e : ((Int32 × PoT)) ⊕ (Int32 × PoT)} (hx : x_M_readMen_14 sn sx X q tl E G N A U Y K H x2 oo e) : ∀ (n : Nat) (x1 : Int32) (x3 : Int32) (x4 : Int32) (Q : PoT), l_M_readMen_14 fu G x2 n x1 x3 x4 Q = some e → am_ev 4 k_M_readMen (14, [.ref 1000, .int x1, .int x2, .int x3, .int x4, am_ju, am_ju], [], (zl sn sx, X, xr E G Q N A U Y K H tl, q)) oo
  | 0, _, _, _, _, hM => by have h : (none : Option (((Int32 × PoT)) ⊕ (Int32 × PoT))) = some e := hM; cases h
  | n + 1, _, _, _, _, hM => sb_M_readMen_14 hx (fun _ _ _ _ hM => sl_M_readMen_14 hx n _ _ _ _ hM) hM
theorem sb_M_readMen_5 {fu : Nat} {sn : Nat} {sx : Nat → Int32} {X : List am_C} {q : Nat × Nat} {tl : List am_C} {E : ThT} {G : RtT} {N : NuT} {A : PaT} {U : UnT} {Y : LiT} {K : KeT} {H : HlT} {oo : am_O} {e : Int32 × PoT} {gg : Int32 → Int32 → PoT → Option (Int32 × PoT)} (hx : x_M_readMen_5 sn sx X q tl E G N A U Y K H oo e) (hg : ∀ (x1 : Int32) (x2 : Int32) (Q : PoT), gg x1 x2 Q = some e → am_ev 4 k_M_readMen (5, [.ref 1000, .int x1, .int x2, am_ju, am_ju, am_ju, am_ju], [], (zl sn sx, X, xr E G Q N A U Y K H tl, q)) oo) {x1 : Int32} {x2 : Int32} {Q : PoT} (hM : b_M_readMen_5 fu G gg x1 x2 Q = some e) : am_ev 4 k_M_readMen (5, [.ref 1000, .int x1, .int x2, am_ju, am_ju, am_ju, am_ju], [], (zl sn sx, X, xr E G Q N A U Y K H tl, q)) oo := by
  unfold b_M_readMen_5 at hM
  rcases am_if hM with ⟨c12, hM⟩ | ⟨c12, hM⟩
  · refine am_ev.kt 2 177 9 [.ref 1000, .int x1, .int x2, am_ju, am_ju, am_ju, am_ju] [] (zl sn sx, X, xr E G Q N A U Y K H tl, q) c12 (fun _ _ => rfl) ?_
    cases hM
    cases hx
    exact am_ev.kf 4 (fun _ _ => rfl)
  · refine am_ev.ke 2 177 9 [.ref 1000, .int x1, .int x2, am_ju, am_ju, am_ju, am_ju] [] (zl sn sx, X, xr E G Q N A U Y K H tl, q) c12 (fun _ _ => rfl) ?_
    refine am_ev.kg 4 (pc' := 14) (lv' := [.ref 1000, .int x1, .int x2, .int (0 : Int32), .int (0 : Int32), am_ju, am_ju]) (st' := []) (h' := (zl sn sx, X, xr E G Q N A U Y K H tl, q)) (fun _ _ => rfl) ?_
    obtain ⟨z, hz, hM⟩ := am_bind hM
    rcases z with z | z
    ·
      obtain ⟨x1_2, qz_2⟩ := z
      refine sl_M_readMen_14 ?_ _ _ _ _ _ hz
      show am_ev 4 k_M_readMen (147, [.ref 1000, .int x1_2, .int x2, am_ju, am_ju, am_ju, am_ju], [], (zl sn sx, X, xr E G qz_2 N A U Y K H tl, q)) oo
      exact sj_M_readMen_147 hx hg hM
    ·
      obtain ⟨ov, oQ⟩ := z
      cases hM
      refine sl_M_readMen_14 ?_ _ _ _ _ _ hz
      exact hx
theorem sl_M_readMen_5 {fu : Nat} {sn : Nat} {sx : Nat → Int32} {X : List am_C} {q : Nat × Nat} {tl : List am_C} {E : ThT} {G : RtT} {N : NuT} {A : PaT} {U : UnT} {Y : LiT} {K : KeT} {H : HlT} {oo : am_O} {e : Int32 × PoT} (hx : x_M_readMen_5 sn sx X q tl E G N A U Y K H oo e) : ∀ (n : Nat) (x1 : Int32) (x2 : Int32) (Q : PoT), l_M_readMen_5 fu G n x1 x2 Q = some e → am_ev 4 k_M_readMen (5, [.ref 1000, .int x1, .int x2, am_ju, am_ju, am_ju, am_ju], [], (zl sn sx, X, xr E G Q N A U Y K H tl, q)) oo
  | 0, _, _, _, hM => by have h : (none : Option (Int32 × PoT)) = some e := hM; cases h
  | n + 1, _, _, _, hM => sb_M_readMen_5 hx (fun _ _ _ hM => sl_M_readMen_5 hx n _ _ _ hM) hM
theorem se_M_readMen {fu : Nat} {sn : Nat} {sx : Nat → Int32} {X : List am_C} {q : Nat × Nat} {tl : List am_C} {E : ThT} {G : RtT} {Q : PoT} {N : NuT} {A : PaT} {U : UnT} {Y : LiT} {K : KeT} {H : HlT} {oo : am_O} {e : Int32 × PoT} (hx : y_M_readMen sn sx X q tl E G N A U Y K H oo e) (hM : f_M_readMen fu G Q = some e) : am_ev 4 k_M_readMen (0, [.ref 1000, am_ju, am_ju, am_ju, am_ju, am_ju, am_ju], [], (zl sn sx, X, xr E G Q N A U Y K H tl, q)) oo := by
  unfold f_M_readMen at hM
  refine am_ev.kg 4 (pc' := 5) (lv' := [.ref 1000, .int (0 : Int32), .int (7 : Int32), am_ju, am_ju, am_ju, am_ju]) (st' := []) (h' := (zl sn sx, X, xr E G Q N A U Y K H tl, q)) (fun _ _ => rfl) ?_
  obtain ⟨ov, oQ⟩ := e
  refine sl_M_readMen_5 ?_ _ _ _ _ hM
  exact hx
theorem s_M_readMen {fu : Nat} {sn : Nat} {sx : Nat → Int32} {X : List am_C} {q : Nat × Nat} {tl : List am_C} {E : ThT} {G : RtT} {Q : PoT} {N : NuT} {A : PaT} {U : UnT} {Y : LiT} {K : KeT} {H : HlT} {ov : Int32} {oQ : PoT} (hM : f_M_readMen fu G Q = some (ov, oQ)) : am_cv 5 k_M_readMen [.ref 1000] (zl sn sx, X, xr E G Q N A U Y K H tl, q) (.inl (some (.int ov)), (zl sn sx, X, xr E G oQ N A U Y K H tl, q)) := am_cv.of rfl (se_M_readMen (e := (ov, oQ)) (show y_M_readMen sn sx X q tl E G N A U Y K H _ (ov, oQ) from rfl) hM)
def y_M_numberAt (sn : Nat) (sx : Nat → Int32) (X : List am_C) (q : Nat × Nat) (tl : List am_C) (E : ThT) (G : RtT) (Q : PoT) (N : NuT) (A : PaT) (U : UnT) (Y : LiT) (K : KeT) (H : HlT) (oo : am_O) : Int32 → Prop
  | ov => oo = (.inl (some (.int ov)), (zl sn sx, X, xr E G Q N A U Y K H tl, q))
def x_M_numberAt_4 (sn : Nat) (sx : Nat → Int32) (X : List am_C) (q : Nat × Nat) (tl : List am_C) (E : ThT) (G : RtT) (Q : PoT) (N : NuT) (A : PaT) (U : UnT) (Y : LiT) (K : KeT) (H : HlT) (x1 : Int32) (oo : am_O) : (Int32 × Int32) → Prop
  | (x2, x3) => am_ev 2 k_M_numberAt (51, [.ref 1000, .int x1, .int x2, .int x3], [], (zl sn sx, X, xr E G Q N A U Y K H tl, q)) oo
theorem sb_M_numberAt_4 {fu : Nat} {sn : Nat} {sx : Nat → Int32} {X : List am_C} {q : Nat × Nat} {tl : List am_C} {E : ThT} {G : RtT} {Q : PoT} {N : NuT} {A : PaT} {U : UnT} {Y : LiT} {K : KeT} {H : HlT} {x1 : Int32} {oo : am_O} {e : (Int32 × Int32)} {gg : Int32 → Int32 → Option ((Int32 × Int32))} (hx : x_M_numberAt_4 sn sx X q tl E G Q N A U Y K H x1 oo e) (hg : ∀ (x2 : Int32) (x3 : Int32), gg x2 x3 = some e → am_ev 2 k_M_numberAt (4, [.ref 1000, .int x1, .int x2, .int x3], [], (zl sn sx, X, xr E G Q N A U Y K H tl, q)) oo) {x2 : Int32} {x3 : Int32} (hM : b_M_numberAt_4 fu G x1 gg x2 x3 = some e) : am_ev 2 k_M_numberAt (4, [.ref 1000, .int x1, .int x2, .int x3], [], (zl sn sx, X, xr E G Q N A U Y K H tl, q)) oo := by
  unfold b_M_numberAt_4 at hM
  rcases am_if hM with ⟨c1, hM⟩ | ⟨c1, hM⟩
  · refine am_ev.kt 5 51 11 [.ref 1000, .int x1, .int x2, .int x3] [] (zl sn sx, X, xr E G Q N A U Y K H tl, q) c1 (fun _ _ => rfl) ?_
    cases hM
    exact hx
  · refine am_ev.ke 5 51 11 [.ref 1000, .int x1, .int x2, .int x3] [] (zl sn sx, X, xr E G Q N A U Y K H tl, q) c1 (fun _ _ => rfl) ?_
    obtain ⟨rr, hc, hM⟩ := am_bind hM
    obtain ⟨r1, rfl⟩ : ∃ z, z = rr := ⟨_, rfl⟩
    refine am_ev.kg 2 (pc' := 13) (lv' := [.ref 1000, .int x1, .int x2, .int x3]) (st' := [.int x3, .ref 1000]) (h' := (zl sn sx, X, xr E G Q N A U Y K H tl, q)) (fun _ _ => rfl) ?_
    refine am_ev.call rfl rfl rfl ((s_M_sign hc).mono (by decide)) ?_
    show am_ev _ k_M_numberAt (16, [.ref 1000, .int x1, .int x2, .int x3], [.int r1], (zl sn sx, X, xr E G Q N A U Y K H tl, q)) oo
    rcases am_if hM with ⟨c2, hM⟩ | ⟨c2, hM⟩
    · refine am_ev.kt 2 51 21 [.ref 1000, .int x1, .int x2, .int x3] [] (zl sn sx, X, xr E G Q N A U Y K H tl, q) c2 (fun _ _ => rfl) ?_
      cases hM
      exact hx
    · refine am_ev.ke 2 51 21 [.ref 1000, .int x1, .int x2, .int x3] [] (zl sn sx, X, xr E G Q N A U Y K H tl, q) c2 (fun _ _ => rfl) ?_
      obtain ⟨rr, hc, hM⟩ := am_bind hM
      obtain ⟨r2, rfl⟩ : ∃ z, z = rr := ⟨_, rfl⟩
      refine am_ev.kg 2 (pc' := 23) (lv' := [.ref 1000, .int x1, .int x2, .int x3]) (st' := [.int x3, .ref 1000]) (h' := (zl sn sx, X, xr E G Q N A U Y K H tl, q)) (fun _ _ => rfl) ?_
      refine am_ev.call rfl rfl rfl ((s_M_sign hc).mono (by decide)) ?_
      show am_ev _ k_M_numberAt (26, [.ref 1000, .int x1, .int x2, .int x3], [.int r2], (zl sn sx, X, xr E G Q N A U Y K H tl, q)) oo
      rcases am_if hM with ⟨c3, hM⟩ | ⟨c3, hM⟩
      · refine am_ev.kt 2 51 31 [.ref 1000, .int x1, .int x2, .int x3] [] (zl sn sx, X, xr E G Q N A U Y K H tl, q) c3 (fun _ _ => rfl) ?_
        cases hM
        exact hx
      · refine am_ev.ke 2 51 31 [.ref 1000, .int x1, .int x2, .int x3] [] (zl sn sx, X, xr E G Q N A U Y K H tl, q) c3 (fun _ _ => rfl) ?_
        obtain ⟨rr, hc, hM⟩ := am_bind hM
        obtain ⟨r3, rfl⟩ : ∃ z, z = rr := ⟨_, rfl⟩
        refine am_ev.kg 5 (pc' := 37) (lv' := [.ref 1000, .int x1, .int x2, .int x3]) (st' := [.int x3, .ref 1000, .int ((10 : Int32) * x2)]) (h' := (zl sn sx, X, xr E G Q N A U Y K H tl, q)) (fun _ _ => rfl) ?_
        refine am_ev.call rfl rfl rfl ((s_M_sign hc).mono (by decide)) ?_
        show am_ev _ k_M_numberAt (40, [.ref 1000, .int x1, .int x2, .int x3], [.int r3, .int ((10 : Int32) * x2)], (zl sn sx, X, xr E G Q N A U Y K H tl, q)) oo
        refine am_ev.kg 6 (pc' := 4) (lv' := [.ref 1000, .int x1, .int ((((10 : Int32) * x2) + r3) - (48 : Int32)), .int (x3 + (1 : Int32))]) (st' := []) (h' := (zl sn sx, X, xr E G Q N A U Y K H tl, q)) (fun _ _ => rfl) ?_
        exact hg _ _ hM
theorem sl_M_numberAt_4 {fu : Nat} {sn : Nat} {sx : Nat → Int32} {X : List am_C} {q : Nat × Nat} {tl : List am_C} {E : ThT} {G : RtT} {Q : PoT} {N : NuT} {A : PaT} {U : UnT} {Y : LiT} {K : KeT} {H : HlT} {x1 : Int32} {oo : am_O} {e : (Int32 × Int32)} (hx : x_M_numberAt_4 sn sx X q tl E G Q N A U Y K H x1 oo e) : ∀ (n : Nat) (x2 : Int32) (x3 : Int32), l_M_numberAt_4 fu G x1 n x2 x3 = some e → am_ev 2 k_M_numberAt (4, [.ref 1000, .int x1, .int x2, .int x3], [], (zl sn sx, X, xr E G Q N A U Y K H tl, q)) oo
  | 0, _, _, hM => by have h : (none : Option ((Int32 × Int32))) = some e := hM; cases h
  | n + 1, _, _, hM => sb_M_numberAt_4 hx (fun _ _ hM => sl_M_numberAt_4 hx n _ _ hM) hM
theorem sj_M_numberAt_51 {fu : Nat} {sn : Nat} {sx : Nat → Int32} {X : List am_C} {q : Nat × Nat} {tl : List am_C} {E : ThT} {G : RtT} {Q : PoT} {N : NuT} {A : PaT} {U : UnT} {Y : LiT} {K : KeT} {H : HlT} {x1 : Int32} {x2 : Int32} {x3 : Int32} {oo : am_O} {e : Int32} (hx : y_M_numberAt sn sx X q tl E G Q N A U Y K H oo e) (hM : j_M_numberAt_51 fu G x1 x2 x3 = some e) : am_ev 2 k_M_numberAt (51, [.ref 1000, .int x1, .int x2, .int x3], [], (zl sn sx, X, xr E G Q N A U Y K H tl, q)) oo := by
  unfold j_M_numberAt_51 at hM
  rcases am_if hM with ⟨c4, hM⟩ | ⟨c4, hM⟩
  · refine am_ev.kt 3 80 56 [.ref 1000, .int x1, .int x2, .int x3] [] (zl sn sx, X, xr E G Q N A U Y K H tl, q) c4 (fun _ _ => rfl) ?_
    cases hM
    cases hx
    exact am_ev.kf 3 (fun _ _ => rfl)
  · refine am_ev.ke 3 80 56 [.ref 1000, .int x1, .int x2, .int x3] [] (zl sn sx, X, xr E G Q N A U Y K H tl, q) c4 (fun _ _ => rfl) ?_
    rcases am_if hM with ⟨c5, hM⟩ | ⟨c5, hM⟩
    · refine am_ev.kt 5 80 63 [.ref 1000, .int x1, .int x2, .int x3] [] (zl sn sx, X, xr E G Q N A U Y K H tl, q) c5 (fun _ _ => rfl) ?_
      cases hM
      cases hx
      exact am_ev.kf 3 (fun _ _ => rfl)
    · refine am_ev.ke 5 80 63 [.ref 1000, .int x1, .int x2, .int x3] [] (zl sn sx, X, xr E G Q N A U Y K H tl, q) c5 (fun _ _ => rfl) ?_
      rcases am_if hM with ⟨c6, hM⟩ | ⟨c6, hM⟩
      · refine am_ev.kt 5 84 70 [.ref 1000, .int x1, .int x2, .int x3] [] (zl sn sx, X, xr E G Q N A U Y K H tl, q) c6 (fun _ _ => rfl) ?_
        cases hM
        cases hx
        exact am_ev.kf 2 (fun _ _ => rfl)
      · refine am_ev.ke 5 84 70 [.ref 1000, .int x1, .int x2, .int x3] [] (zl sn sx, X, xr E G Q N A U Y K H tl, q) c6 (fun _ _ => rfl) ?_
        obtain ⟨rr, hc, hM⟩ := am_bind hM
        obtain ⟨r4, rfl⟩ : ∃ z, z = rr := ⟨_, rfl⟩
        refine am_ev.kg 2 (pc' := 72) (lv' := [.ref 1000, .int x1, .int x2, .int x3]) (st' := [.int x1, .ref 1000]) (h' := (zl sn sx, X, xr E G Q N A U Y K H tl, q)) (fun _ _ => rfl) ?_
        refine am_ev.call rfl rfl rfl ((s_M_sign hc).mono (by decide)) ?_
        show am_ev _ k_M_numberAt (75, [.ref 1000, .int x1, .int x2, .int x3], [.int r4], (zl sn sx, X, xr E G Q N A U Y K H tl, q)) oo
        rcases am_if hM with ⟨c7, hM⟩ | ⟨c7, hM⟩
        · refine am_ev.kt 2 84 80 [.ref 1000, .int x1, .int x2, .int x3] [] (zl sn sx, X, xr E G Q N A U Y K H tl, q) c7 (fun _ _ => rfl) ?_
          cases hM
          cases hx
          exact am_ev.kf 2 (fun _ _ => rfl)
        · refine am_ev.ke 2 84 80 [.ref 1000, .int x1, .int x2, .int x3] [] (zl sn sx, X, xr E G Q N A U Y K H tl, q) c7 (fun _ _ => rfl) ?_
          cases hM
          cases hx
          exact am_ev.kf 3 (fun _ _ => rfl)
theorem se_M_numberAt {fu : Nat} {sn : Nat} {sx : Nat → Int32} {X : List am_C} {q : Nat × Nat} {tl : List am_C} {E : ThT} {G : RtT} {Q : PoT} {N : NuT} {A : PaT} {U : UnT} {Y : LiT} {K : KeT} {H : HlT} {x1 : Int32} {oo : am_O} {e : Int32} (hx : y_M_numberAt sn sx X q tl E G Q N A U Y K H oo e) (hM : f_M_numberAt fu x1 G = some e) : am_ev 2 k_M_numberAt (0, [.ref 1000, .int x1, am_ju, am_ju], [], (zl sn sx, X, xr E G Q N A U Y K H tl, q)) oo := by
  unfold f_M_numberAt at hM
  refine am_ev.kg 4 (pc' := 4) (lv' := [.ref 1000, .int x1, .int (0 : Int32), .int x1]) (st' := []) (h' := (zl sn sx, X, xr E G Q N A U Y K H tl, q)) (fun _ _ => rfl) ?_
  obtain ⟨z, hz, hM⟩ := am_bind hM
  obtain ⟨x2_1, x3_1⟩ := z
  refine sl_M_numberAt_4 ?_ _ _ _ hz
  show am_ev 2 k_M_numberAt (51, [.ref 1000, .int x1, .int x2_1, .int x3_1], [], (zl sn sx, X, xr E G Q N A U Y K H tl, q)) oo
  exact sj_M_numberAt_51 hx hM
theorem s_M_numberAt {fu : Nat} {sn : Nat} {sx : Nat → Int32} {X : List am_C} {q : Nat × Nat} {tl : List am_C} {E : ThT} {G : RtT} {Q : PoT} {N : NuT} {A : PaT} {U : UnT} {Y : LiT} {K : KeT} {H : HlT} {x1 : Int32} {ov : Int32} (hM : f_M_numberAt fu x1 G = some ov) : am_cv 3 k_M_numberAt [.ref 1000, .int x1] (zl sn sx, X, xr E G Q N A U Y K H tl, q) (.inl (some (.int ov)), (zl sn sx, X, xr E G Q N A U Y K H tl, q)) := am_cv.of rfl (se_M_numberAt (e := ov) (show y_M_numberAt sn sx X q tl E G Q N A U Y K H _ ov from rfl) hM)
def y_M_lengthOf (sn : Nat) (sx : Nat → Int32) (X : List am_C) (q : Nat × Nat) (tl : List am_C) (E : ThT) (G : RtT) (Q : PoT) (N : NuT) (A : PaT) (U : UnT) (Y : LiT) (K : KeT) (H : HlT) (oo : am_O) : Int32 → Prop
  | ov => oo = (.inl (some (.int ov)), (zl sn sx, X, xr E G Q N A U Y K H tl, q))
theorem se_M_lengthOf {sn : Nat} {sx : Nat → Int32} {X : List am_C} {q : Nat × Nat} {tl : List am_C} {E : ThT} {G : RtT} {Q : PoT} {N : NuT} {A : PaT} {U : UnT} {Y : LiT} {K : KeT} {H : HlT} {x0 : Int32} {oo : am_O} {e : Int32} (hx : y_M_lengthOf sn sx X q tl E G Q N A U Y K H oo e) (hM : f_M_lengthOf x0 = some e) : am_ev 1 k_M_lengthOf (0, [.int x0], [], (zl sn sx, X, xr E G Q N A U Y K H tl, q)) oo := by
  unfold f_M_lengthOf at hM
  rcases am_if hM with ⟨c1, hM⟩ | ⟨c1, hM⟩
  · refine am_ev.kt 3 10 6 [.int x0] [] (zl sn sx, X, xr E G Q N A U Y K H tl, q) c1 (fun _ _ => rfl) ?_
    rcases am_if hM with ⟨c2, hM⟩ | ⟨c2, hM⟩
    · refine am_ev.kt 3 20 16 [.int x0] [] (zl sn sx, X, xr E G Q N A U Y K H tl, q) c2 (fun _ _ => rfl) ?_
      cases hM
      cases hx
      exact am_ev.kf 2 (fun _ _ => rfl)
    · refine am_ev.ke 3 20 16 [.int x0] [] (zl sn sx, X, xr E G Q N A U Y K H tl, q) c2 (fun _ _ => rfl) ?_
      cases hM
      cases hx
      exact am_ev.kf 3 (fun _ _ => rfl)
  · refine am_ev.ke 3 10 6 [.int x0] [] (zl sn sx, X, xr E G Q N A U Y K H tl, q) c1 (fun _ _ => rfl) ?_
    cases hM
    cases hx
    exact am_ev.kf 3 (fun _ _ => rfl)
theorem s_M_lengthOf {sn : Nat} {sx : Nat → Int32} {X : List am_C} {q : Nat × Nat} {tl : List am_C} {E : ThT} {G : RtT} {Q : PoT} {N : NuT} {A : PaT} {U : UnT} {Y : LiT} {K : KeT} {H : HlT} {x0 : Int32} {ov : Int32} (hM : f_M_lengthOf x0 = some ov) : am_cv 2 k_M_lengthOf [.int x0] (zl sn sx, X, xr E G Q N A U Y K H tl, q) (.inl (some (.int ov)), (zl sn sx, X, xr E G Q N A U Y K H tl, q)) := am_cv.of rfl (se_M_lengthOf (e := ov) (show y_M_lengthOf sn sx X q tl E G Q N A U Y K H _ ov from rfl) hM)
