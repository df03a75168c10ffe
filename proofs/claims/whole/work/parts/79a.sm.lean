def y_L_move (sn : Nat) (sx : Nat → Int32) (T : TxT) (D : BdT) (r : RdT) (B : BdT) (V : MvT) (L : RwT) (F : RwT) (R : Nat → RwT) (S : SoT) (P : HeT) (E : ThT) (G : RtT) (Q : PoT) (N : NuT) (A : PaT) (U : UnT) (Y : LiT) (K : KeT) (H : HlT) (oo : am_O) : Int32 × OuT × CtT → Prop
  | (ov, oO, oq) => oo = (.inl (some (.int ov)), (zl sn sx, xa xm T D r B (xb V L F R S P), xr E G Q N A U Y K H [.inr (.long, 1, .inr (.inl oO))], oq))
theorem se_L_move {sn : Nat} {sx : Nat → Int32} {T : TxT} {D : BdT} {r : RdT} {B : BdT} {V : MvT} {L : RwT} {F : RwT} {R : Nat → RwT} {S : SoT} {P : HeT} {E : ThT} {G : RtT} {Q : PoT} {N : NuT} {A : PaT} {U : UnT} {Y : LiT} {K : KeT} {H : HlT} {O : OuT} {q : CtT} {x1 : Int32} {oo : am_O} {e : Int32 × OuT × CtT} (hx : y_L_move sn sx T D r B V L F R S P E G Q N A U Y K H oo e) (hM : f_L_move x1 O q L = some e) : am_ev 3 k_L_move (0, [.ref 100, .int x1, .ref 1018, am_ju], [], (zl sn sx, xa xm T D r B (xb V L F R S P), xr E G Q N A U Y K H [.inr (.long, 1, .inr (.inl O))], q)) oo := by
  unfold f_L_move at hM
  obtain ⟨rr, hc, hM⟩ := am_bind hM
  obtain ⟨a0, rfl⟩ : ∃ z, z = rr := ⟨_, rfl⟩
  refine am_ev.kg 4 (pc' := 4) (lv' := [.ref 100, .int x1, .ref 1018, am_ju]) (st' := [.int x1, .ref 100, .int (0 : Int32), .ref 1018]) (h' := (zl sn sx, xa xm T D r B (xb V L F R S P), xr E G Q N A U Y K H [.inr (.long, 1, .inr (.inl O))], q)) (fun _ _ => rfl) ?_
  rcases a0 with r1 | e0
  · refine am_ev.call rfl rfl rfl ((s_Mp_move hc).mono (by decide)) ?_
    show am_ev _ k_L_move (7, [.ref 100, .int x1, .ref 1018, am_ju], [.int r1, .int (0 : Int32), .ref 1018], (zl sn sx, xa xm T D r B (xb V L F R S P), xr E G Q N A U Y K H [.inr (.long, 1, .inr (.inl O))], q)) oo
    obtain ⟨c1, hM⟩ := am_ifn hM
    refine am_ev.kc 2 9 [.ref 100, .int x1, .ref 1018, am_ju] [] (zl sn sx, xa xm T D r B (xb V L F R S P), xr E G Q N A U Y K H [.inr (.long, 1, .inr (.inl (vp_updL O ((0 : Int32)).toNatClampNeg (r1).toInt64)))], q) c1 (fun _ _ => rfl) ?_
    cases hM
    cases hx
    exact am_ev.kf 3 (fun _ _ => rfl)
  ·
    rcases am_if hM with ⟨c2, hM⟩ | ⟨c2, hM⟩
    · subst c2
      refine am_ev.cat rfl rfl rfl rfl ((s_Mp_move hc).mono (by decide)) ?_
      show am_ev _ k_L_move (13, [.ref 100, .int x1, .ref 1018, am_ju], [], (zl sn sx, xa xm T D r B (xb V L F R S P), xr E G Q N A U Y K H [.inr (.long, 1, .inr (.inl O))], (am_qx q))) oo
      cases hM
      cases hx
      exact am_ev.kf 2 (fun _ _ => rfl)
    ·
      cases hM
theorem s_L_move {sn : Nat} {sx : Nat → Int32} {T : TxT} {D : BdT} {r : RdT} {B : BdT} {V : MvT} {L : RwT} {F : RwT} {R : Nat → RwT} {S : SoT} {P : HeT} {E : ThT} {G : RtT} {Q : PoT} {N : NuT} {A : PaT} {U : UnT} {Y : LiT} {K : KeT} {H : HlT} {O : OuT} {q : CtT} {x1 : Int32} {ov : Int32} {oO : OuT} {oq : CtT} (hM : f_L_move x1 O q L = some (ov, oO, oq)) : am_cv 4 k_L_move [.ref 100, .int x1, .ref 1018] (zl sn sx, xa xm T D r B (xb V L F R S P), xr E G Q N A U Y K H [.inr (.long, 1, .inr (.inl O))], q) (.inl (some (.int ov)), (zl sn sx, xa xm T D r B (xb V L F R S P), xr E G Q N A U Y K H [.inr (.long, 1, .inr (.inl oO))], oq)) := am_cv.of rfl (se_L_move (e := (ov, oO, oq)) (show y_L_move sn sx T D r B V L F R S P E G Q N A U Y K H _ (ov, oO, oq) from rfl) hM)
def y_L_play (sn : Nat) (sx : Nat → Int32) (T : TxT) (D : BdT) (r : RdT) (V : MvT) (R : Nat → RwT) (S : SoT) (E : ThT) (G : RtT) (Q : PoT) (N : NuT) (A : PaT) (U : UnT) (Y : LiT) (K : KeT) (H : HlT) (oo : am_O) : Int32 × OuT × CtT × BdT × RwT × RwT × HeT → Prop
  | (ov, oO, oq, oB, oL, oF, oP) => oo = (.inl (some (.int ov)), (zl sn sx, xa xm T D r oB (xb V oL oF R S oP), xr E G Q N A U Y K H [.inr (.long, 1, .inr (.inl oO))], oq))
theorem se_L_play {fu : Nat} {sn : Nat} {sx : Nat → Int32} {T : TxT} {D : BdT} {r : RdT} {B : BdT} {V : MvT} {L : RwT} {F : RwT} {R : Nat → RwT} {S : SoT} {P : HeT} {E : ThT} {G : RtT} {Q : PoT} {N : NuT} {A : PaT} {U : UnT} {Y : LiT} {K : KeT} {H : HlT} {O : OuT} {q : CtT} {x1 : Int32} {oo : am_O} {e : Int32 × OuT × CtT × BdT × RwT × RwT × HeT} (hx : y_L_play sn sx T D r V R S E G Q N A U Y K H oo e) (hM : f_L_play fu x1 O q B L F P = some e) : am_ev 8 k_L_play (0, [.ref 100, .int x1, .ref 1018, am_ju], [], (zl sn sx, xa xm T D r B (xb V L F R S P), xr E G Q N A U Y K H [.inr (.long, 1, .inr (.inl O))], q)) oo := by
  unfold f_L_play at hM
  obtain ⟨rr, hc, hM⟩ := am_bind hM
  obtain ⟨a0, bg2, lg3, fg4, pg5⟩ := rr
  refine am_ev.kg 4 (pc' := 4) (lv' := [.ref 100, .int x1, .ref 1018, am_ju]) (st' := [.int x1, .ref 100, .int (0 : Int32), .ref 1018]) (h' := (zl sn sx, xa xm T D r B (xb V L F R S P), xr E G Q N A U Y K H [.inr (.long, 1, .inr (.inl O))], q)) (fun _ _ => rfl) ?_
  rcases a0 with r1 | e0
  · refine am_ev.call rfl rfl rfl ((s_Mp_play hc).mono (by decide)) ?_
    show am_ev _ k_L_play (7, [.ref 100, .int x1, .ref 1018, am_ju], [.int r1, .int (0 : Int32), .ref 1018], (zl sn sx, xa xm T D r bg2 (xb V lg3 fg4 R S pg5), xr E G Q N A U Y K H [.inr (.long, 1, .inr (.inl O))], q)) oo
    obtain ⟨c1, hM⟩ := am_ifn hM
    refine am_ev.kc 2 9 [.ref 100, .int x1, .ref 1018, am_ju] [] (zl sn sx, xa xm T D r bg2 (xb V lg3 fg4 R S pg5), xr E G Q N A U Y K H [.inr (.long, 1, .inr (.inl (vp_updL O ((0 : Int32)).toNatClampNeg (r1).toInt64)))], q) c1 (fun _ _ => rfl) ?_
    cases hM
    cases hx
    exact am_ev.kf 3 (fun _ _ => rfl)
  ·
    rcases am_if hM with ⟨c2, hM⟩ | ⟨c2, hM⟩
    · subst c2
      refine am_ev.cat rfl rfl rfl rfl ((s_Mp_play hc).mono (by decide)) ?_
      show am_ev _ k_L_play (13, [.ref 100, .int x1, .ref 1018, am_ju], [], (zl sn sx, xa xm T D r bg2 (xb V lg3 fg4 R S pg5), xr E G Q N A U Y K H [.inr (.long, 1, .inr (.inl O))], (am_qx q))) oo
      cases hM
      cases hx
      exact am_ev.kf 2 (fun _ _ => rfl)
    ·
      rcases am_if hM with ⟨c3, hM⟩ | ⟨c3, hM⟩
      · subst c3
        refine am_ev.cat rfl rfl rfl rfl ((s_Mp_play hc).mono (by decide)) ?_
        show am_ev _ k_L_play (16, [.ref 100, .int x1, .ref 1018, am_ju], [], (zl sn sx, xa xm T D r bg2 (xb V lg3 fg4 R S pg5), xr E G Q N A U Y K H [.inr (.long, 1, .inr (.inl O))], (am_qx q))) oo
        cases hM
        cases hx
        exact am_ev.kf 2 (fun _ _ => rfl)
      ·
        cases hM
theorem s_L_play {fu : Nat} {sn : Nat} {sx : Nat → Int32} {T : TxT} {D : BdT} {r : RdT} {B : BdT} {V : MvT} {L : RwT} {F : RwT} {R : Nat → RwT} {S : SoT} {P : HeT} {E : ThT} {G : RtT} {Q : PoT} {N : NuT} {A : PaT} {U : UnT} {Y : LiT} {K : KeT} {H : HlT} {O : OuT} {q : CtT} {x1 : Int32} {ov : Int32} {oO : OuT} {oq : CtT} {oB : BdT} {oL : RwT} {oF : RwT} {oP : HeT} (hM : f_L_play fu x1 O q B L F P = some (ov, oO, oq, oB, oL, oF, oP)) : am_cv 9 k_L_play [.ref 100, .int x1, .ref 1018] (zl sn sx, xa xm T D r B (xb V L F R S P), xr E G Q N A U Y K H [.inr (.long, 1, .inr (.inl O))], q) (.inl (some (.int ov)), (zl sn sx, xa xm T D r oB (xb V oL oF R S oP), xr E G Q N A U Y K H [.inr (.long, 1, .inr (.inl oO))], oq)) := am_cv.of rfl (se_L_play (e := (ov, oO, oq, oB, oL, oF, oP)) (show y_L_play sn sx T D r V R S E G Q N A U Y K H _ (ov, oO, oq, oB, oL, oF, oP) from rfl) hM)
def y_L_back (sn : Nat) (sx : Nat → Int32) (T : TxT) (D : BdT) (r : RdT) (V : MvT) (R : Nat → RwT) (S : SoT) (E : ThT) (G : RtT) (Q : PoT) (N : NuT) (A : PaT) (U : UnT) (Y : LiT) (K : KeT) (H : HlT) (oo : am_O) : Int32 × OuT × CtT × BdT × RwT × RwT × HeT → Prop
  | (ov, oO, oq, oB, oL, oF, oP) => oo = (.inl (some (.int ov)), (zl sn sx, xa xm T D r oB (xb V oL oF R S oP), xr E G Q N A U Y K H [.inr (.long, 1, .inr (.inl oO))], oq))
theorem se_L_back {fu : Nat} {sn : Nat} {sx : Nat → Int32} {T : TxT} {D : BdT} {r : RdT} {B : BdT} {V : MvT} {L : RwT} {F : RwT} {R : Nat → RwT} {S : SoT} {P : HeT} {E : ThT} {G : RtT} {Q : PoT} {N : NuT} {A : PaT} {U : UnT} {Y : LiT} {K : KeT} {H : HlT} {O : OuT} {q : CtT} {oo : am_O} {e : Int32 × OuT × CtT × BdT × RwT × RwT × HeT} (hx : y_L_back sn sx T D r V R S E G Q N A U Y K H oo e) (hM : f_L_back fu O q B L F P = some e) : am_ev 8 k_L_back (0, [.ref 100, .ref 1018, am_ju], [], (zl sn sx, xa xm T D r B (xb V L F R S P), xr E G Q N A U Y K H [.inr (.long, 1, .inr (.inl O))], q)) oo := by
  unfold f_L_back at hM
  obtain ⟨rr, hc, hM⟩ := am_bind hM
  obtain ⟨a0, bg2, lg3, fg4, pg5⟩ := rr
  refine am_ev.kg 3 (pc' := 3) (lv' := [.ref 100, .ref 1018, am_ju]) (st' := [.ref 100, .int (0 : Int32), .ref 1018]) (h' := (zl sn sx, xa xm T D r B (xb V L F R S P), xr E G Q N A U Y K H [.inr (.long, 1, .inr (.inl O))], q)) (fun _ _ => rfl) ?_
  rcases a0 with r1 | e0
  · refine am_ev.call rfl rfl rfl ((s_Mp_back hc).mono (by decide)) ?_
    show am_ev _ k_L_back (6, [.ref 100, .ref 1018, am_ju], [.int r1, .int (0 : Int32), .ref 1018], (zl sn sx, xa xm T D r bg2 (xb V lg3 fg4 R S pg5), xr E G Q N A U Y K H [.inr (.long, 1, .inr (.inl O))], q)) oo
    obtain ⟨c1, hM⟩ := am_ifn hM
    refine am_ev.kc 2 8 [.ref 100, .ref 1018, am_ju] [] (zl sn sx, xa xm T D r bg2 (xb V lg3 fg4 R S pg5), xr E G Q N A U Y K H [.inr (.long, 1, .inr (.inl (vp_updL O ((0 : Int32)).toNatClampNeg (r1).toInt64)))], q) c1 (fun _ _ => rfl) ?_
    cases hM
    cases hx
    exact am_ev.kf 3 (fun _ _ => rfl)
  ·
    rcases am_if hM with ⟨c2, hM⟩ | ⟨c2, hM⟩
    · subst c2
      refine am_ev.cat rfl rfl rfl rfl ((s_Mp_back hc).mono (by decide)) ?_
      show am_ev _ k_L_back (12, [.ref 100, .ref 1018, am_ju], [], (zl sn sx, xa xm T D r bg2 (xb V lg3 fg4 R S pg5), xr E G Q N A U Y K H [.inr (.long, 1, .inr (.inl O))], (am_qx q))) oo
      cases hM
      cases hx
      exact am_ev.kf 2 (fun _ _ => rfl)
    ·
      cases hM
theorem s_L_back {fu : Nat} {sn : Nat} {sx : Nat → Int32} {T : TxT} {D : BdT} {r : RdT} {B : BdT} {V : MvT} {L : RwT} {F : RwT} {R : Nat → RwT} {S : SoT} {P : HeT} {E : ThT} {G : RtT} {Q : PoT} {N : NuT} {A : PaT} {U : UnT} {Y : LiT} {K : KeT} {H : HlT} {O : OuT} {q : CtT} {ov : Int32} {oO : OuT} {oq : CtT} {oB : BdT} {oL : RwT} {oF : RwT} {oP : HeT} (hM : f_L_back fu O q B L F P = some (ov, oO, oq, oB, oL, oF, oP)) : am_cv 9 k_L_back [.ref 100, .ref 1018] (zl sn sx, xa xm T D r B (xb V L F R S P), xr E G Q N A U Y K H [.inr (.long, 1, .inr (.inl O))], q) (.inl (some (.int ov)), (zl sn sx, xa xm T D r oB (xb V oL oF R S oP), xr E G Q N A U Y K H [.inr (.long, 1, .inr (.inl oO))], oq)) := am_cv.of rfl (se_L_back (e := (ov, oO, oq, oB, oL, oF, oP)) (show y_L_back sn sx T D r V R S E G Q N A U Y K H _ (ov, oO, oq, oB, oL, oF, oP) from rfl) hM)
def y_L_keys (sn : Nat) (sx : Nat → Int32) (T : TxT) (D : BdT) (r : RdT) (L : RwT) (P : HeT) (E : ThT) (G : RtT) (Q : PoT) (N : NuT) (A : PaT) (U : UnT) (Y : LiT) (K : KeT) (H : HlT) (oo : am_O) : Int32 × OuT × CtT × BdT × MvT × RwT × (Nat → RwT) × SoT → Prop
  | (ov, oO, oq, oB, oV, oF, oR, oS) => oo = (.inl (some (.int ov)), (zl sn sx, xa xm T D r oB (xb oV L oF oR oS P), xr E G Q N A U Y K H [.inr (.long, 1, .inr (.inl oO))], oq))
theorem se_L_keys {fu : Nat} {sn : Nat} {sx : Nat → Int32} {T : TxT} {D : BdT} {r : RdT} {B : BdT} {V : MvT} {L : RwT} {F : RwT} {R : Nat → RwT} {S : SoT} {P : HeT} {E : ThT} {G : RtT} {Q : PoT} {N : NuT} {A : PaT} {U : UnT} {Y : LiT} {K : KeT} {H : HlT} {O : OuT} {q : CtT} {x1 : Int32} {x2 : Int32} {x3 : Int32} {oo : am_O} {e : Int32 × OuT × CtT × BdT × MvT × RwT × (Nat → RwT) × SoT} (hx : y_L_keys sn sx T D r L P E G Q N A U Y K H oo e) (hM : f_L_keys fu x1 x2 x3 O q B V L F R S = some e) : am_ev 12 k_L_keys (0, [.ref 100, .int x1, .int x2, .int x3, .ref 1018, am_ju], [], (zl sn sx, xa xm T D r B (xb V L F R S P), xr E G Q N A U Y K H [.inr (.long, 1, .inr (.inl O))], q)) oo := by
  unfold f_L_keys at hM
  obtain ⟨rr, hc, hM⟩ := am_bind hM
  obtain ⟨a0, bg2, vg3, fg4, rg5, sg6⟩ := rr
  refine am_ev.kg 6 (pc' := 7) (lv' := [.ref 100, .int x1, .int x2, .int x3, .ref 1018, am_ju]) (st' := [.int x3, .int x2, .int x1, .ref 100, .int (0 : Int32), .ref 1018]) (h' := (zl sn sx, xa xm T D r B (xb V L F R S P), xr E G Q N A U Y K H [.inr (.long, 1, .inr (.inl O))], q)) (fun _ _ => rfl) ?_
  rcases a0 with r1 | e0
  · refine am_ev.call rfl rfl rfl ((s_Mp_keys hc).mono (by decide)) ?_
    show am_ev _ k_L_keys (10, [.ref 100, .int x1, .int x2, .int x3, .ref 1018, am_ju], [.int r1, .int (0 : Int32), .ref 1018], (zl sn sx, xa xm T D r bg2 (xb vg3 L fg4 rg5 sg6 P), xr E G Q N A U Y K H [.inr (.long, 1, .inr (.inl O))], q)) oo
    obtain ⟨c1, hM⟩ := am_ifn hM
    refine am_ev.kc 2 12 [.ref 100, .int x1, .int x2, .int x3, .ref 1018, am_ju] [] (zl sn sx, xa xm T D r bg2 (xb vg3 L fg4 rg5 sg6 P), xr E G Q N A U Y K H [.inr (.long, 1, .inr (.inl (vp_updL O ((0 : Int32)).toNatClampNeg (r1).toInt64)))], q) c1 (fun _ _ => rfl) ?_
    cases hM
    cases hx
    exact am_ev.kf 3 (fun _ _ => rfl)
  ·
    rcases am_if hM with ⟨c2, hM⟩ | ⟨c2, hM⟩
    · subst c2
      refine am_ev.cat rfl rfl rfl rfl ((s_Mp_keys hc).mono (by decide)) ?_
      show am_ev _ k_L_keys (17, [.ref 100, .int x1, .int x2, .int x3, .ref 1018, am_ju], [], (zl sn sx, xa xm T D r bg2 (xb vg3 L fg4 rg5 sg6 P), xr E G Q N A U Y K H [.inr (.long, 1, .inr (.inl O))], (am_qx q))) oo
      cases hM
      cases hx
      exact am_ev.kf 2 (fun _ _ => rfl)
    ·
      cases hM
theorem s_L_keys {fu : Nat} {sn : Nat} {sx : Nat → Int32} {T : TxT} {D : BdT} {r : RdT} {B : BdT} {V : MvT} {L : RwT} {F : RwT} {R : Nat → RwT} {S : SoT} {P : HeT} {E : ThT} {G : RtT} {Q : PoT} {N : NuT} {A : PaT} {U : UnT} {Y : LiT} {K : KeT} {H : HlT} {O : OuT} {q : CtT} {x1 : Int32} {x2 : Int32} {x3 : Int32} {ov : Int32} {oO : OuT} {oq : CtT} {oB : BdT} {oV : MvT} {oF : RwT} {oR : Nat → RwT} {oS : SoT} (hM : f_L_keys fu x1 x2 x3 O q B V L F R S = some (ov, oO, oq, oB, oV, oF, oR, oS)) : am_cv 13 k_L_keys [.ref 100, .int x1, .int x2, .int x3, .ref 1018] (zl sn sx, xa xm T D r B (xb V L F R S P), xr E G Q N A U Y K H [.inr (.long, 1, .inr (.inl O))], q) (.inl (some (.int ov)), (zl sn sx, xa xm T D r oB (xb oV L oF oR oS P), xr E G Q N A U Y K H [.inr (.long, 1, .inr (.inl oO))], oq)) := am_cv.of rfl (se_L_keys (e := (ov, oO, oq, oB, oV, oF, oR, oS)) (show y_L_keys sn sx T D r L P E G Q N A U Y K H _ (ov, oO, oq, oB, oV, oF, oR, oS) from rfl) hM)
def y_L_key (sn : Nat) (sx : Nat → Int32) (T : TxT) (D : BdT) (r : RdT) (B : BdT) (V : MvT) (L : RwT) (F : RwT) (R : Nat → RwT) (S : SoT) (P : HeT) (E : ThT) (G : RtT) (Q : PoT) (N : NuT) (A : PaT) (U : UnT) (Y : LiT) (K : KeT) (H : HlT) (oo : am_O) : Int32 × OuT × CtT → Prop
  | (ov, oO, oq) => oo = (.inl (some (.int ov)), (zl sn sx, xa xm T D r B (xb V L F R S P), xr E G Q N A U Y K H [.inr (.long, 1, .inr (.inl oO))], oq))
theorem se_L_key {sn : Nat} {sx : Nat → Int32} {T : TxT} {D : BdT} {r : RdT} {B : BdT} {V : MvT} {L : RwT} {F : RwT} {R : Nat → RwT} {S : SoT} {P : HeT} {E : ThT} {G : RtT} {Q : PoT} {N : NuT} {A : PaT} {U : UnT} {Y : LiT} {K : KeT} {H : HlT} {O : OuT} {q : CtT} {x1 : Int32} {oo : am_O} {e : Int32 × OuT × CtT} (hx : y_L_key sn sx T D r B V L F R S P E G Q N A U Y K H oo e) (hM : f_L_key x1 O q F = some e) : am_ev 3 k_L_key (0, [.ref 100, .int x1, .ref 1018, am_ju], [], (zl sn sx, xa xm T D r B (xb V L F R S P), xr E G Q N A U Y K H [.inr (.long, 1, .inr (.inl O))], q)) oo := by
  unfold f_L_key at hM
  obtain ⟨rr, hc, hM⟩ := am_bind hM
  obtain ⟨a0, rfl⟩ : ∃ z, z = rr := ⟨_, rfl⟩
  refine am_ev.kg 4 (pc' := 4) (lv' := [.ref 100, .int x1, .ref 1018, am_ju]) (st' := [.int x1, .ref 100, .int (0 : Int32), .ref 1018]) (h' := (zl sn sx, xa xm T D r B (xb V L F R S P), xr E G Q N A U Y K H [.inr (.long, 1, .inr (.inl O))], q)) (fun _ _ => rfl) ?_
  rcases a0 with r1 | e0
  · refine am_ev.call rfl rfl rfl ((s_Mp_key hc).mono (by decide)) ?_
    show am_ev _ k_L_key (7, [.ref 100, .int x1, .ref 1018, am_ju], [.int r1, .int (0 : Int32), .ref 1018], (zl sn sx, xa xm T D r B (xb V L F R S P), xr E G Q N A U Y K H [.inr (.long, 1, .inr (.inl O))], q)) oo
    obtain ⟨c1, hM⟩ := am_ifn hM
    refine am_ev.kc 2 9 [.ref 100, .int x1, .ref 1018, am_ju] [] (zl sn sx, xa xm T D r B (xb V L F R S P), xr E G Q N A U Y K H [.inr (.long, 1, .inr (.inl (vp_updL O ((0 : Int32)).toNatClampNeg (r1).toInt64)))], q) c1 (fun _ _ => rfl) ?_
    cases hM
    cases hx
    exact am_ev.kf 3 (fun _ _ => rfl)
  ·
    rcases am_if hM with ⟨c2, hM⟩ | ⟨c2, hM⟩
    · subst c2
      refine am_ev.cat rfl rfl rfl rfl ((s_Mp_key hc).mono (by decide)) ?_
      show am_ev _ k_L_key (13, [.ref 100, .int x1, .ref 1018, am_ju], [], (zl sn sx, xa xm T D r B (xb V L F R S P), xr E G Q N A U Y K H [.inr (.long, 1, .inr (.inl O))], (am_qx q))) oo
      cases hM
      cases hx
      exact am_ev.kf 2 (fun _ _ => rfl)
    ·
      cases hM
theorem s_L_key {sn : Nat} {sx : Nat → Int32} {T : TxT} {D : BdT} {r : RdT} {B : BdT} {V : MvT} {L : RwT} {F : RwT} {R : Nat → RwT} {S : SoT} {P : HeT} {E : ThT} {G : RtT} {Q : PoT} {N : NuT} {A : PaT} {U : UnT} {Y : LiT} {K : KeT} {H : HlT} {O : OuT} {q : CtT} {x1 : Int32} {ov : Int32} {oO : OuT} {oq : CtT} (hM : f_L_key x1 O q F = some (ov, oO, oq)) : am_cv 4 k_L_key [.ref 100, .int x1, .ref 1018] (zl sn sx, xa xm T D r B (xb V L F R S P), xr E G Q N A U Y K H [.inr (.long, 1, .inr (.inl O))], q) (.inl (some (.int ov)), (zl sn sx, xa xm T D r B (xb V L F R S P), xr E G Q N A U Y K H [.inr (.long, 1, .inr (.inl oO))], oq)) := am_cv.of rfl (se_L_key (e := (ov, oO, oq)) (show y_L_key sn sx T D r B V L F R S P E G Q N A U Y K H _ (ov, oO, oq) from rfl) hM)
def y_L_least (sn : Nat) (sx : Nat → Int32) (T : TxT) (D : BdT) (r : RdT) (L : RwT) (F : RwT) (P : HeT) (E : ThT) (G : RtT) (Q : PoT) (N : NuT) (A : PaT) (U : UnT) (Y : LiT) (K : KeT) (H : HlT) (oo : am_O) : Int32 × OuT × CtT × BdT × MvT × (Nat → RwT) × SoT → Prop
  | (ov, oO, oq, oB, oV, oR, oS) => oo = (.inl (some (.int ov)), (zl sn sx, xa xm T D r oB (xb oV L F oR oS P), xr E G Q N A U Y K H [.inr (.long, 1, .inr (.inl oO))], oq))
theorem se_L_least {fu : Nat} {sn : Nat} {sx : Nat → Int32} {T : TxT} {D : BdT} {r : RdT} {B : BdT} {V : MvT} {L : RwT} {F : RwT} {R : Nat → RwT} {S : SoT} {P : HeT} {E : ThT} {G : RtT} {Q : PoT} {N : NuT} {A : PaT} {U : UnT} {Y : LiT} {K : KeT} {H : HlT} {O : OuT} {q : CtT} {x1 : Int32} {x2 : Int32} {x3 : Int32} {oo : am_O} {e : Int32 × OuT × CtT × BdT × MvT × (Nat → RwT) × SoT} (hx : y_L_least sn sx T D r L F P E G Q N A U Y K H oo e) (hM : f_L_least fu x1 x2 x3 O q B V R S = some e) : am_ev 13 k_L_least (0, [.ref 100, .int x1, .int x2, .int x3, .ref 1018, am_ju], [], (zl sn sx, xa xm T D r B (xb V L F R S P), xr E G Q N A U Y K H [.inr (.long, 1, .inr (.inl O))], q)) oo := by
  unfold f_L_least at hM
  obtain ⟨rr, hc, hM⟩ := am_bind hM
  obtain ⟨a0, bg2, vg3, rg4, sg5⟩ := rr
  refine am_ev.kg 6 (pc' := 7) (lv' := [.ref 100, .int x1, .int x2, .int x3, .ref 1018, am_ju]) (st' := [.int x3, .int x2, .int x1, .ref 100, .int (0 : Int32), .ref 1018]) (h' := (zl sn sx, xa xm T D r B (xb V L F R S P), xr E G Q N A U Y K H [.inr (.long, 1, .inr (.inl O))], q)) (fun _ _ => rfl) ?_
  rcases a0 with r1 | e0
  · refine am_ev.call rfl rfl rfl ((s_Mp_least hc).mono (by decide)) ?_
    show am_ev _ k_L_least (10, [.ref 100, .int x1, .int x2, .int x3, .ref 1018, am_ju], [.int r1, .int (0 : Int32), .ref 1018], (zl sn sx, xa xm T D r bg2 (xb vg3 L F rg4 sg5 P), xr E G Q N A U Y K H [.inr (.long, 1, .inr (.inl O))], q)) oo
    obtain ⟨c1, hM⟩ := am_ifn hM
    refine am_ev.kc 2 12 [.ref 100, .int x1, .int x2, .int x3, .ref 1018, am_ju] [] (zl sn sx, xa xm T D r bg2 (xb vg3 L F rg4 sg5 P), xr E G Q N A U Y K H [.inr (.long, 1, .inr (.inl (vp_updL O ((0 : Int32)).toNatClampNeg (r1).toInt64)))], q) c1 (fun _ _ => rfl) ?_
    cases hM
    cases hx
    exact am_ev.kf 3 (fun _ _ => rfl)
  ·
    rcases am_if hM with ⟨c2, hM⟩ | ⟨c2, hM⟩
    · subst c2
      refine am_ev.cat rfl rfl rfl rfl ((s_Mp_least hc).mono (by decide)) ?_
      show am_ev _ k_L_least (17, [.ref 100, .int x1, .int x2, .int x3, .ref 1018, am_ju], [], (zl sn sx, xa xm T D r bg2 (xb vg3 L F rg4 sg5 P), xr E G Q N A U Y K H [.inr (.long, 1, .inr (.inl O))], (am_qx q))) oo
      cases hM
      cases hx
      exact am_ev.kf 2 (fun _ _ => rfl)
    ·
      cases hM
theorem s_L_least {fu : Nat} {sn : Nat} {sx : Nat → Int32} {T : TxT} {D : BdT} {r : RdT} {B : BdT} {V : MvT} {L : RwT} {F : RwT} {R : Nat → RwT} {S : SoT} {P : HeT} {E : ThT} {G : RtT} {Q : PoT} {N : NuT} {A : PaT} {U : UnT} {Y : LiT} {K : KeT} {H : HlT} {O : OuT} {q : CtT} {x1 : Int32} {x2 : Int32} {x3 : Int32} {ov : Int32} {oO : OuT} {oq : CtT} {oB : BdT} {oV : MvT} {oR : Nat → RwT} {oS : SoT} (hM : f_L_least fu x1 x2 x3 O q B V R S = some (ov, oO, oq, oB, oV, oR, oS)) : am_cv 14 k_L_least [.ref 100, .int x1, .int x2, .int x3, .ref 1018] (zl sn sx, xa xm T D r B (xb V L F R S P), xr E G Q N A U Y K H [.inr (.long, 1, .inr (.inl O))], q) (.inl (some (.int ov)), (zl sn sx, xa xm T D r oB (xb oV L F oR oS P), xr E G Q N A U Y K H [.inr (.long, 1, .inr (.inl oO))], oq)) := am_cv.of rfl (se_L_least (e := (ov, oO, oq, oB, oV, oR, oS)) (show y_L_least sn sx T D r L F P E G Q N A U Y K H _ (ov, oO, oq, oB, oV, oR, oS) from rfl) hM)
def y_L_refuted (sn : Nat) (sx : Nat → Int32) (T : TxT) (D : BdT) (r : RdT) (L : RwT) (F : RwT) (P : HeT) (E : ThT) (G : RtT) (Q : PoT) (N : NuT) (A : PaT) (U : UnT) (Y : LiT) (K : KeT) (H : HlT) (oo : am_O) : Int32 × OuT × CtT × BdT × MvT × (Nat → RwT) × SoT → Prop
  | (ov, oO, oq, oB, oV, oR, oS) => oo = (.inl (some (.int ov)), (zl sn sx, xa xm T D r oB (xb oV L F oR oS P), xr E G Q N A U Y K H [.inr (.long, 1, .inr (.inl oO))], oq))
theorem se_L_refuted {fu : Nat} {sn : Nat} {sx : Nat → Int32} {T : TxT} {D : BdT} {r : RdT} {B : BdT} {V : MvT} {L : RwT} {F : RwT} {R : Nat → RwT} {S : SoT} {P : HeT} {E : ThT} {G : RtT} {Q : PoT} {N : NuT} {A : PaT} {U : UnT} {Y : LiT} {K : KeT} {H : HlT} {O : OuT} {q : CtT} {x1 : Int32} {x2 : Int32} {x3 : Int32} {x4 : Int32} {oo : am_O} {e : Int32 × OuT × CtT × BdT × MvT × (Nat → RwT) × SoT} (hx : y_L_refuted sn sx T D r L F P E G Q N A U Y K H oo e) (hM : f_L_refuted fu x1 x2 x3 x4 O q B V L R S = some e) : am_ev 12 k_L_refuted (0, [.ref 100, .int x1, .int x2, .int x3, .int x4, .ref 1018, am_ju], [], (zl sn sx, xa xm T D r B (xb V L F R S P), xr E G Q N A U Y K H [.inr (.long, 1, .inr (.inl O))], q)) oo := by
  unfold f_L_refuted at hM
  obtain ⟨rr, hc, hM⟩ := am_bind hM
  obtain ⟨a0, bg2, vg3, rg4, sg5⟩ := rr
  refine am_ev.kg 7 (pc' := 9) (lv' := [.ref 100, .int x1, .int x2, .int x3, .int x4, .ref 1018, am_ju]) (st' := [.int x4, .int x3, .int x2, .int x1, .ref 100, .int (0 : Int32), .ref 1018]) (h' := (zl sn sx, xa xm T D r B (xb V L F R S P), xr E G Q N A U Y K H [.inr (.long, 1, .inr (.inl O))], q)) (fun _ _ => rfl) ?_
  rcases a0 with r1 | e0
  · refine am_ev.call rfl rfl rfl ((s_Mp_refuted hc).mono (by decide)) ?_
    show am_ev _ k_L_refuted (12, [.ref 100, .int x1, .int x2, .int x3, .int x4, .ref 1018, am_ju], [.int r1, .int (0 : Int32), .ref 1018], (zl sn sx, xa xm T D r bg2 (xb vg3 L F rg4 sg5 P), xr E G Q N A U Y K H [.inr (.long, 1, .inr (.inl O))], q)) oo
    obtain ⟨c1, hM⟩ := am_ifn hM
    refine am_ev.kc 2 14 [.ref 100, .int x1, .int x2, .int x3, .int x4, .ref 1018, am_ju] [] (zl sn sx, xa xm T D r bg2 (xb vg3 L F rg4 sg5 P), xr E G Q N A U Y K H [.inr (.long, 1, .inr (.inl (vp_updL O ((0 : Int32)).toNatClampNeg (r1).toInt64)))], q) c1 (fun _ _ => rfl) ?_
    cases hM
    cases hx
    exact am_ev.kf 3 (fun _ _ => rfl)
  ·
    rcases am_if hM with ⟨c2, hM⟩ | ⟨c2, hM⟩
    · subst c2
      refine am_ev.cat rfl rfl rfl rfl ((s_Mp_refuted hc).mono (by decide)) ?_
      show am_ev _ k_L_refuted (19, [.ref 100, .int x1, .int x2, .int x3, .int x4, .ref 1018, am_ju], [], (zl sn sx, xa xm T D r bg2 (xb vg3 L F rg4 sg5 P), xr E G Q N A U Y K H [.inr (.long, 1, .inr (.inl O))], (am_qx q))) oo
      cases hM
      cases hx
      exact am_ev.kf 2 (fun _ _ => rfl)
    ·
      rcases am_if hM with ⟨c3, hM⟩ | ⟨c3, hM⟩
      · subst c3
        refine am_ev.cat rfl rfl rfl rfl ((s_Mp_refuted hc).mono (by decide)) ?_
        show am_ev _ k_L_refuted (23, [.ref 100, .int x1, .int x2, .int x3, .int x4, .ref 1018, am_ju], [], (zl sn sx, xa xm T D r bg2 (xb vg3 L F rg4 sg5 P), xr E G Q N A U Y K H [.inr (.long, 1, .inr (.inl O))], (am_qx q))) oo
        cases hM
        cases hx
        exact am_ev.kf 2 (fun _ _ => rfl)
      ·
        cases hM
theorem s_L_refuted {fu : Nat} {sn : Nat} {sx : Nat → Int32} {T : TxT} {D : BdT} {r : RdT} {B : BdT} {V : MvT} {L : RwT} {F : RwT} {R : Nat → RwT} {S : SoT} {P : HeT} {E : ThT} {G : RtT} {Q : PoT} {N : NuT} {A : PaT} {U : UnT} {Y : LiT} {K : KeT} {H : HlT} {O : OuT} {q : CtT} {x1 : Int32} {x2 : Int32} {x3 : Int32} {x4 : Int32} {ov : Int32} {oO : OuT} {oq : CtT} {oB : BdT} {oV : MvT} {oR : Nat → RwT} {oS : SoT} (hM : f_L_refuted fu x1 x2 x3 x4 O q B V L R S = some (ov, oO, oq, oB, oV, oR, oS)) : am_cv 13 k_L_refuted [.ref 100, .int x1, .int x2, .int x3, .int x4, .ref 1018] (zl sn sx, xa xm T D r B (xb V L F R S P), xr E G Q N A U Y K H [.inr (.long, 1, .inr (.inl O))], q) (.inl (some (.int ov)), (zl sn sx, xa xm T D r oB (xb oV L F oR oS P), xr E G Q N A U Y K H [.inr (.long, 1, .inr (.inl oO))], oq)) := am_cv.of rfl (se_L_refuted (e := (ov, oO, oq, oB, oV, oR, oS)) (show y_L_refuted sn sx T D r L F P E G Q N A U Y K H _ (ov, oO, oq, oB, oV, oR, oS) from rfl) hM)
def y_L_lines (sn : Nat) (sx : Nat → Int32) (T : TxT) (D : BdT) (r : RdT) (L : RwT) (F : RwT) (S : SoT) (E : ThT) (G : RtT) (Q : PoT) (N : NuT) (A : PaT) (U : UnT) (Y : LiT) (K : KeT) (H : HlT) (oo : am_O) : Int32 × OuT × CtT × BdT × MvT × (Nat → RwT) × HeT → Prop
  | (ov, oO, oq, oB, oV, oR, oP) => oo = (.inl (some (.int ov)), (zl sn sx, xa xm T D r oB (xb oV L F oR S oP), xr E G Q N A U Y K H [.inr (.long, 1, .inr (.inl oO))], oq))
theorem se_L_lines {fu : Nat} {sn : Nat} {sx : Nat → Int32} {T : TxT} {D : BdT} {r : RdT} {B : BdT} {V : MvT} {L : RwT} {F : RwT} {R : Nat → RwT} {S : SoT} {P : HeT} {E : ThT} {G : RtT} {Q : PoT} {N : NuT} {A : PaT} {U : UnT} {Y : LiT} {K : KeT} {H : HlT} {O : OuT} {q : CtT} {x1 : Int32} {x2 : Int32} {oo : am_O} {e : Int32 × OuT × CtT × BdT × MvT × (Nat → RwT) × HeT} (hx : y_L_lines sn sx T D r L F S E G Q N A U Y K H oo e) (hM : f_L_lines fu x1 x2 O q B V R P = some e) : am_ev 11 k_L_lines (0, [.ref 100, .int x1, .int x2, .ref 1018, am_ju], [], (zl sn sx, xa xm T D r B (xb V L F R S P), xr E G Q N A U Y K H [.inr (.long, 1, .inr (.inl O))], q)) oo := by
  unfold f_L_lines at hM
  obtain ⟨rr, hc, hM⟩ := am_bind hM
  obtain ⟨a0, bg2, vg3, rg4, pg5⟩ := rr
  refine am_ev.kg 5 (pc' := 5) (lv' := [.ref 100, .int x1, .int x2, .ref 1018, am_ju]) (st' := [.int x2, .int x1, .ref 100, .int (0 : Int32), .ref 1018]) (h' := (zl sn sx, xa xm T D r B (xb V L F R S P), xr E G Q N A U Y K H [.inr (.long, 1, .inr (.inl O))], q)) (fun _ _ => rfl) ?_
  rcases a0 with r1 | e0
  · refine am_ev.call rfl rfl rfl ((s_Mp_lines hc).mono (by decide)) ?_
    show am_ev _ k_L_lines (8, [.ref 100, .int x1, .int x2, .ref 1018, am_ju], [.int r1, .int (0 : Int32), .ref 1018], (zl sn sx, xa xm T D r bg2 (xb vg3 L F rg4 S pg5), xr E G Q N A U Y K H [.inr (.long, 1, .inr (.inl O))], q)) oo
    obtain ⟨c1, hM⟩ := am_ifn hM
    refine am_ev.kc 2 10 [.ref 100, .int x1, .int x2, .ref 1018, am_ju] [] (zl sn sx, xa xm T D r bg2 (xb vg3 L F rg4 S pg5), xr E G Q N A U Y K H [.inr (.long, 1, .inr (.inl (vp_updL O ((0 : Int32)).toNatClampNeg (r1).toInt64)))], q) c1 (fun _ _ => rfl) ?_
    cases hM
    cases hx
    exact am_ev.kf 3 (fun _ _ => rfl)
  ·
    rcases am_if hM with ⟨c2, hM⟩ | ⟨c2, hM⟩
    · subst c2
      refine am_ev.cat rfl rfl rfl rfl ((s_Mp_lines hc).mono (by decide)) ?_
      show am_ev _ k_L_lines (15, [.ref 100, .int x1, .int x2, .ref 1018, am_ju], [], (zl sn sx, xa xm T D r bg2 (xb vg3 L F rg4 S pg5), xr E G Q N A U Y K H [.inr (.long, 1, .inr (.inl O))], (am_qx q))) oo
      cases hM
      cases hx
      exact am_ev.kf 2 (fun _ _ => rfl)
    ·
      cases hM
theorem s_L_lines {fu : Nat} {sn : Nat} {sx : Nat → Int32} {T : TxT} {D : BdT} {r : RdT} {B : BdT} {V : MvT} {L : RwT} {F : RwT} {R : Nat → RwT} {S : SoT} {P : HeT} {E : ThT} {G : RtT} {Q : PoT} {N : NuT} {A : PaT} {U : UnT} {Y : LiT} {K : KeT} {H : HlT} {O : OuT} {q : CtT} {x1 : Int32} {x2 : Int32} {ov : Int32} {oO : OuT} {oq : CtT} {oB : BdT} {oV : MvT} {oR : Nat → RwT} {oP : HeT} (hM : f_L_lines fu x1 x2 O q B V R P = some (ov, oO, oq, oB, oV, oR, oP)) : am_cv 12 k_L_lines [.ref 100, .int x1, .int x2, .ref 1018] (zl sn sx, xa xm T D r B (xb V L F R S P), xr E G Q N A U Y K H [.inr (.long, 1, .inr (.inl O))], q) (.inl (some (.int ov)), (zl sn sx, xa xm T D r oB (xb oV L F oR S oP), xr E G Q N A U Y K H [.inr (.long, 1, .inr (.inl oO))], oq)) := am_cv.of rfl (se_L_lines (e := (ov, oO, oq, oB, oV, oR, oP)) (show y_L_lines sn sx T D r L F S E G Q N A U Y K H _ (ov, oO, oq, oB, oV, oR, oP) from rfl) hM)
def y_L_line (sn : Nat) (sx : Nat → Int32) (T : TxT) (D : BdT) (r : RdT) (L : RwT) (F : RwT) (S : SoT) (E : ThT) (G : RtT) (Q : PoT) (N : NuT) (A : PaT) (U : UnT) (Y : LiT) (K : KeT) (H : HlT) (oo : am_O) : Int32 × OuT × CtT × BdT × MvT × (Nat → RwT) × HeT → Prop
  | (ov, oO, oq, oB, oV, oR, oP) => oo = (.inl (some (.int ov)), (zl sn sx, xa xm T D r oB (xb oV L F oR S oP), xr E G Q N A U Y K H [.inr (.long, 1, .inr (.inl oO))], oq))
theorem se_L_line {fu : Nat} {sn : Nat} {sx : Nat → Int32} {T : TxT} {D : BdT} {r : RdT} {B : BdT} {V : MvT} {L : RwT} {F : RwT} {R : Nat → RwT} {S : SoT} {P : HeT} {E : ThT} {G : RtT} {Q : PoT} {N : NuT} {A : PaT} {U : UnT} {Y : LiT} {K : KeT} {H : HlT} {O : OuT} {q : CtT} {x1 : Int32} {x2 : Int32} {x3 : Int32} {x4 : Int32} {oo : am_O} {e : Int32 × OuT × CtT × BdT × MvT × (Nat → RwT) × HeT} (hx : y_L_line sn sx T D r L F S E G Q N A U Y K H oo e) (hM : f_L_line fu x1 x2 x3 x4 O q B V R P = some e) : am_ev 11 k_L_line (0, [.ref 100, .int x1, .int x2, .int x3, .int x4, .ref 1018, am_ju], [], (zl sn sx, xa xm T D r B (xb V L F R S P), xr E G Q N A U Y K H [.inr (.long, 1, .inr (.inl O))], q)) oo := by
  unfold f_L_line at hM
  obtain ⟨rr, hc, hM⟩ := am_bind hM
  obtain ⟨a0, bg2, vg3, rg4, pg5⟩ := rr
  refine am_ev.kg 7 (pc' := 9) (lv' := [.ref 100, .int x1, .int x2, .int x3, .int x4, .ref 1018, am_ju]) (st' := [.int x4, .int x3, .int x2, .int x1, .ref 100, .int (0 : Int32), .ref 1018]) (h' := (zl sn sx, xa xm T D r B (xb V L F R S P), xr E G Q N A U Y K H [.inr (.long, 1, .inr (.inl O))], q)) (fun _ _ => rfl) ?_
  rcases a0 with r1 | e0
  · refine am_ev.call rfl rfl rfl ((s_Mp_line hc).mono (by decide)) ?_
    show am_ev _ k_L_line (12, [.ref 100, .int x1, .int x2, .int x3, .int x4, .ref 1018, am_ju], [.int r1, .int (0 : Int32), .ref 1018], (zl sn sx, xa xm T D r bg2 (xb vg3 L F rg4 S pg5), xr E G Q N A U Y K H [.inr (.long, 1, .inr (.inl O))], q)) oo
    obtain ⟨c1, hM⟩ := am_ifn hM
    refine am_ev.kc 2 14 [.ref 100, .int x1, .int x2, .int x3, .int x4, .ref 1018, am_ju] [] (zl sn sx, xa xm T D r bg2 (xb vg3 L F rg4 S pg5), xr E G Q N A U Y K H [.inr (.long, 1, .inr (.inl (vp_updL O ((0 : Int32)).toNatClampNeg (r1).toInt64)))], q) c1 (fun _ _ => rfl) ?_
    cases hM
    cases hx
    exact am_ev.kf 3 (fun _ _ => rfl)
  ·
    rcases am_if hM with ⟨c2, hM⟩ | ⟨c2, hM⟩
    · subst c2
      refine am_ev.cat rfl rfl rfl rfl ((s_Mp_line hc).mono (by decide)) ?_
      show am_ev _ k_L_line (19, [.ref 100, .int x1, .int x2, .int x3, .int x4, .ref 1018, am_ju], [], (zl sn sx, xa xm T D r bg2 (xb vg3 L F rg4 S pg5), xr E G Q N A U Y K H [.inr (.long, 1, .inr (.inl O))], (am_qx q))) oo
      cases hM
      cases hx
      exact am_ev.kf 2 (fun _ _ => rfl)
    ·
      rcases am_if hM with ⟨c3, hM⟩ | ⟨c3, hM⟩
      · subst c3
        refine am_ev.cat rfl rfl rfl rfl ((s_Mp_line hc).mono (by decide)) ?_
        show am_ev _ k_L_line (23, [.ref 100, .int x1, .int x2, .int x3, .int x4, .ref 1018, am_ju], [], (zl sn sx, xa xm T D r bg2 (xb vg3 L F rg4 S pg5), xr E G Q N A U Y K H [.inr (.long, 1, .inr (.inl O))], (am_qx q))) oo
        cases hM
        cases hx
        exact am_ev.kf 2 (fun _ _ => rfl)
      ·
        cases hM
theorem s_L_line {fu : Nat} {sn : Nat} {sx : Nat → Int32} {T : TxT} {D : BdT} {r : RdT} {B : BdT} {V : MvT} {L : RwT} {F : RwT} {R : Nat → RwT} {S : SoT} {P : HeT} {E : ThT} {G : RtT} {Q : PoT} {N : NuT} {A : PaT} {U : UnT} {Y : LiT} {K : KeT} {H : HlT} {O : OuT} {q : CtT} {x1 : Int32} {x2 : Int32} {x3 : Int32} {x4 : Int32} {ov : Int32} {oO : OuT} {oq : CtT} {oB : BdT} {oV : MvT} {oR : Nat → RwT} {oP : HeT} (hM : f_L_line fu x1 x2 x3 x4 O q B V R P = some (ov, oO, oq, oB, oV, oR, oP)) : am_cv 12 k_L_line [.ref 100, .int x1, .int x2, .int x3, .int x4, .ref 1018] (zl sn sx, xa xm T D r B (xb V L F R S P), xr E G Q N A U Y K H [.inr (.long, 1, .inr (.inl O))], q) (.inl (some (.int ov)), (zl sn sx, xa xm T D r oB (xb oV L F oR S oP), xr E G Q N A U Y K H [.inr (.long, 1, .inr (.inl oO))], oq)) := am_cv.of rfl (se_L_line (e := (ov, oO, oq, oB, oV, oR, oP)) (show y_L_line sn sx T D r L F S E G Q N A U Y K H _ (ov, oO, oq, oB, oV, oR, oP) from rfl) hM)
