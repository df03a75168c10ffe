def am_qx (q : Nat × Nat) : Nat × Nat := (q.1 + 1, q.2 + 6)
/-- a call that throws what is caught here -/
theorem am_ev.cat {D k j pc len e t i : Nat} {lv st st' : List Value} {o : am_O} {as : List Value} {h h' : am_H} (hcd : am_cd k pc = some (.invokestatic j, len)) (hp : am_pop (am_np j) [] st = some (as, st')) (hw : (Nat.ble (am_wd st') 8 && am_rv j as h) = true) (hh : am_hd k pc e = some (t, i)) (hc : am_cv D j as h (.inr e, h')) (hk : am_ev D k (t, am_st1 lv i am_ju, [], h') o) : am_ev D k (pc, lv, st, h) o := by
  obtain ⟨N, hc⟩ := hc
  obtain ⟨M, hk⟩ := hk
  refine ⟨N + M + 1, fun d n m hd hn hm => ?_⟩
  obtain ⟨n', rfl⟩ : ∃ n', n = n' + 1 := ⟨n - 1, by omega⟩
  show am_stp (am_cl d m) k (am_rn (am_cl d m) k n') (pc, lv, st, h) = some o
  simp only [am_stp, hcd, hp, hw, hc d m hd (by omega), hh, cond_true]
  exact hk d n' m hd (by omega) (by omega)
def f_L_move (x1 : Int32) (O : OuT) (q : CtT) (L : RwT) : Option (Int32 × OuT × CtT) :=
  (f_Mp_move x1 L).bind fun a0 => match a0 with
  | .inr a0 => if a0 = 2 then
      some ((1 : Int32), O, (am_qx q))
    else none
  | .inl r1 =>
    if am_in (0 : Int32) 1 = true then
      some ((0 : Int32), (vp_updL O ((0 : Int32)).toNatClampNeg (r1).toInt64), q)
    else none
def f_L_play (fu : Nat) (x1 : Int32) (O : OuT) (q : CtT) (B : BdT) (L : RwT) (F : RwT) (P : HeT) : Option (Int32 × OuT × CtT × BdT × RwT × RwT × HeT) :=
  (f_Mp_play fu x1 B L F P).bind fun (a0, bg2, lg3, fg4, pg5) => match a0 with
  | .inr a0 => if a0 = 1 then
      some ((1 : Int32), O, (am_qx q), bg2, lg3, fg4, pg5)
    else if a0 = 3 then
      some ((2 : Int32), O, (am_qx q), bg2, lg3, fg4, pg5)
    else none
  | .inl r1 =>
    if am_in (0 : Int32) 1 = true then
      some ((0 : Int32), (vp_updL O ((0 : Int32)).toNatClampNeg (r1).toInt64), q, bg2, lg3, fg4, pg5)
    else none
def f_L_back (fu : Nat) (O : OuT) (q : CtT) (B : BdT) (L : RwT) (F : RwT) (P : HeT) : Option (Int32 × OuT × CtT × BdT × RwT × RwT × HeT) :=
  (f_Mp_back fu B L F P).bind fun (a0, bg2, lg3, fg4, pg5) => match a0 with
  | .inr a0 => if a0 = 0 then
      some ((1 : Int32), O, (am_qx q), bg2, lg3, fg4, pg5)
    else none
  | .inl r1 =>
    if am_in (0 : Int32) 1 = true then
      some ((0 : Int32), (vp_updL O ((0 : Int32)).toNatClampNeg (r1).toInt64), q, bg2, lg3, fg4, pg5)
    else none
def f_L_keys (fu : Nat) (x1 : Int32) (x2 : Int32) (x3 : Int32) (O : OuT) (q : CtT) (B : BdT) (V : MvT) (L : RwT) (F : RwT) (R : Nat → RwT) (S : SoT) : Option (Int32 × OuT × CtT × BdT × MvT × RwT × (Nat → RwT) × SoT) :=
  (f_Mp_keys fu x1 x2 x3 B V L F R S).bind fun (a0, bg2, vg3, fg4, rg5, sg6) => match a0 with
  | .inr a0 => if a0 = 1 then
      some ((1 : Int32), O, (am_qx q), bg2, vg3, fg4, rg5, sg6)
    else none
  | .inl r1 =>
    if am_in (0 : Int32) 1 = true then
      some ((0 : Int32), (vp_updL O ((0 : Int32)).toNatClampNeg (r1).toInt64), q, bg2, vg3, fg4, rg5, sg6)
    else none
def f_L_key (x1 : Int32) (O : OuT) (q : CtT) (F : RwT) : Option (Int32 × OuT × CtT) :=
  (f_Mp_key x1 F).bind fun a0 => match a0 with
  | .inr a0 => if a0 = 2 then
      some ((1 : Int32), O, (am_qx q))
    else none
  | .inl r1 =>
    if am_in (0 : Int32) 1 = true then
      some ((0 : Int32), (vp_updL O ((0 : Int32)).toNatClampNeg (r1).toInt64), q)
    else none
def f_L_least (fu : Nat) (x1 : Int32) (x2 : Int32) (x3 : Int32) (O : OuT) (q : CtT) (B : BdT) (V : MvT) (R : Nat → RwT) (S : SoT) : Option (Int32 × OuT × CtT × BdT × MvT × (Nat → RwT) × SoT) :=
  (f_Mp_least fu x1 x2 x3 B V R S).bind fun (a0, bg2, vg3, rg4, sg5) => match a0 with
  | .inr a0 => if a0 = 1 then
      some ((1 : Int32), O, (am_qx q), bg2, vg3, rg4, sg5)
    else none
  | .inl r1 =>
    if am_in (0 : Int32) 1 = true then
      some ((0 : Int32), (vp_updL O ((0 : Int32)).toNatClampNeg (r1).toInt64), q, bg2, vg3, rg4, sg5)
    else none
def f_L_refuted (fu : Nat) (x1 : Int32) (x2 : Int32) (x3 : Int32) (x4 : Int32) (O : OuT) (q : CtT) (B : BdT) (V : MvT) (L : RwT) (R : Nat → RwT) (S : SoT) : Option (Int32 × OuT × CtT × BdT × MvT × (Nat → RwT) × SoT) :=
  (f_Mp_refuted fu x1 x2 x3 x4 B V L R S).bind fun (a0, bg2, vg3, rg4, sg5) => match a0 with
  | .inr a0 => if a0 = 1 then
      some ((1 : Int32), O, (am_qx q), bg2, vg3, rg4, sg5)
    else if a0 = 2 then
      some ((2 : Int32), O, (am_qx q), bg2, vg3, rg4, sg5)
    else none
  | .inl r1 =>
    if am_in (0 : Int32) 1 = true then
      some ((0 : Int32), (vp_updL O ((0 : Int32)).toNatClampNeg (r1).toInt64), q, bg2, vg3, rg4, sg5)
    else none
def f_L_lines (fu : Nat) (x1 : Int32) (x2 : Int32) (O : OuT) (q : CtT) (B : BdT) (V : MvT) (R : Nat → RwT) (P : HeT) : Option (Int32 × OuT × CtT × BdT × MvT × (Nat → RwT) × HeT) :=
  (f_Mp_lines fu x1 x2 B V R P).bind fun (a0, bg2, vg3, rg4, pg5) => match a0 with
  | .inr a0 => if a0 = 1 then
      some ((1 : Int32), O, (am_qx q), bg2, vg3, rg4, pg5)
    else none
  | .inl r1 =>
    if am_in (0 : Int32) 1 = true then
      some ((0 : Int32), (vp_updL O ((0 : Int32)).toNatClampNeg (r1).toInt64), q, bg2, vg3, rg4, pg5)
    else none
def f_L_line (fu : Nat) (x1 : Int32) (x2 : Int32) (x3 : Int32) (x4 : Int32) (O : OuT) (q : CtT) (B : BdT) (V : MvT) (R : Nat → RwT) (P : HeT) : Option (Int32 × OuT × CtT × BdT × MvT × (Nat → RwT) × HeT) :=
  (f_Mp_line fu x1 x2 x3 x4 B V R P).bind fun (a0, bg2, vg3, rg4, pg5) => match a0 with
  | .inr a0 => if a0 = 1 then
      some ((1 : Int32), O, (am_qx q), bg2, vg3, rg4, pg5)
    else if a0 = 2 then
      some ((2 : Int32), O, (am_qx q), bg2, vg3, rg4, pg5)
    else none
  | .inl r1 =>
    if am_in (0 : Int32) 1 = true then
      some ((0 : Int32), (vp_updL O ((0 : Int32)).toNatClampNeg (r1).toInt64), q, bg2, vg3, rg4, pg5)
    else none
def j_L_law_865 (fu : Nat) (sn : Nat) (sx : Nat → Int32) (gg : Int32 → ThT → RtT → PoT → NuT → PaT → UnT → LiT → KeT → HlT → OuT → CtT → TxT → BdT → RdT → BdT → MvT → RwT → RwT → (Nat → RwT) → SoT → HeT → Option (Int32 × ThT × RtT × PoT × NuT × PaT × UnT × LiT × KeT × HlT × OuT × CtT × TxT × BdT × RdT × BdT × MvT × RwT × RwT × (Nat → RwT) × SoT × HeT)) (E : ThT) (G : RtT) (Q : PoT) (N : NuT) (A : PaT) (U : UnT) (Y : LiT) (K : KeT) (H : HlT) (O : OuT) (q : CtT) (T : TxT) (D : BdT) (r : RdT) (B : BdT) (V : MvT) (L : RwT) (F : RwT) (R : Nat → RwT) (S : SoT) (P : HeT) (x4 : Int32) : Option (Int32 × ThT × RtT × PoT × NuT × PaT × UnT × LiT × KeT × HlT × OuT × CtT × TxT × BdT × RdT × BdT × MvT × RwT × RwT × (Nat → RwT) × SoT × HeT) :=
  gg (x4 + (5 : Int32)) E G Q N A U Y K H O q T D r B V L F R S P
def j_L_law_281 (fu : Nat) (sn : Nat) (sx : Nat → Int32) (gg : Int32 → ThT → RtT → PoT → NuT → PaT → UnT → LiT → KeT → HlT → OuT → CtT → TxT → BdT → RdT → BdT → MvT → RwT → RwT → (Nat → RwT) → SoT → HeT → Option (Int32 × ThT × RtT × PoT × NuT × PaT × UnT × LiT × KeT × HlT × OuT × CtT × TxT × BdT × RdT × BdT × MvT × RwT × RwT × (Nat → RwT) × SoT × HeT)) (E : ThT) (G : RtT) (Q : PoT) (N : NuT) (A : PaT) (U : UnT) (Y : LiT) (K : KeT) (H : HlT) (O : OuT) (q : CtT) (T : TxT) (D : BdT) (r : RdT) (B : BdT) (V : MvT) (L : RwT) (F : RwT) (R : Nat → RwT) (S : SoT) (P : HeT) (x4 : Int32) : Option (Int32 × ThT × RtT × PoT × NuT × PaT × UnT × LiT × KeT × HlT × OuT × CtT × TxT × BdT × RdT × BdT × MvT × RwT × RwT × (Nat → RwT) × SoT × HeT) :=
  j_L_law_865 fu sn sx gg E G Q N A U Y K H O q T D r B V L F R S P x4
def j_L_law_337 (fu : Nat) (sn : Nat) (sx : Nat → Int32) (gg : Int32 → ThT → RtT → PoT → NuT → PaT → UnT → LiT → KeT → HlT → OuT → CtT → TxT → BdT → RdT → BdT → MvT → RwT → RwT → (Nat → RwT) → SoT → HeT → Option (Int32 × ThT × RtT × PoT × NuT × PaT × UnT × LiT × KeT × HlT × OuT × CtT × TxT × BdT × RdT × BdT × MvT × RwT × RwT × (Nat → RwT) × SoT × HeT)) (E : ThT) (G : RtT) (Q : PoT) (N : NuT) (A : PaT) (U : UnT) (Y : LiT) (K : KeT) (H : HlT) (O : OuT) (q : CtT) (T : TxT) (D : BdT) (r : RdT) (B : BdT) (V : MvT) (L : RwT) (F : RwT) (R : Nat → RwT) (S : SoT) (P : HeT) (x4 : Int32) : Option (Int32 × ThT × RtT × PoT × NuT × PaT × UnT × LiT × KeT × HlT × OuT × CtT × TxT × BdT × RdT × BdT × MvT × RwT × RwT × (Nat → RwT) × SoT × HeT) :=
  j_L_law_865 fu sn sx gg E G Q N A U Y K H O q T D r B V L F R S P x4
def j_L_law_381 (fu : Nat) (sn : Nat) (sx : Nat → Int32) (gg : Int32 → ThT → RtT → PoT → NuT → PaT → UnT → LiT → KeT → HlT → OuT → CtT → TxT → BdT → RdT → BdT → MvT → RwT → RwT → (Nat → RwT) → SoT → HeT → Option (Int32 × ThT × RtT × PoT × NuT × PaT × UnT × LiT × KeT × HlT × OuT × CtT × TxT × BdT × RdT × BdT × MvT × RwT × RwT × (Nat → RwT) × SoT × HeT)) (E : ThT) (G : RtT) (Q : PoT) (N : NuT) (A : PaT) (U : UnT) (Y : LiT) (K : KeT) (H : HlT) (O : OuT) (q : CtT) (T : TxT) (D : BdT) (r : RdT) (B : BdT) (V : MvT) (L : RwT) (F : RwT) (R : Nat → RwT) (S : SoT) (P : HeT) (x4 : Int32) : Option (Int32 × ThT × RtT × PoT × NuT × PaT × UnT × LiT × KeT × HlT × OuT × CtT × TxT × BdT × RdT × BdT × MvT × RwT × RwT × (Nat → RwT) × SoT × HeT) :=
  j_L_law_865 fu sn sx gg E G Q N A U Y K H O q T D r B V L F R S P x4
def j_L_law_474 (fu : Nat) (sn : Nat) (sx : Nat → Int32) (gg : Int32 → ThT → RtT → PoT → NuT → PaT → UnT → LiT → KeT → HlT → OuT → CtT → TxT → BdT → RdT → BdT → MvT → RwT → RwT → (Nat → RwT) → SoT → HeT → Option (Int32 × ThT × RtT × PoT × NuT × PaT × UnT × LiT × KeT × HlT × OuT × CtT × TxT × BdT × RdT × BdT × MvT × RwT × RwT × (Nat → RwT) × SoT × HeT)) (E : ThT) (G : RtT) (Q : PoT) (N : NuT) (A : PaT) (U : UnT) (Y : LiT) (K : KeT) (H : HlT) (O : OuT) (q : CtT) (T : TxT) (D : BdT) (r : RdT) (B : BdT) (V : MvT) (L : RwT) (F : RwT) (R : Nat → RwT) (S : SoT) (P : HeT) (x4 : Int32) : Option (Int32 × ThT × RtT × PoT × NuT × PaT × UnT × LiT × KeT × HlT × OuT × CtT × TxT × BdT × RdT × BdT × MvT × RwT × RwT × (Nat → RwT) × SoT × HeT) :=
  j_L_law_865 fu sn sx gg E G Q N A U Y K H O q T D r B V L F R S P x4
def j_L_law_530 (fu : Nat) (sn : Nat) (sx : Nat → Int32) (gg : Int32 → ThT → RtT → PoT → NuT → PaT → UnT → LiT → KeT → HlT → OuT → CtT → TxT → BdT → RdT → BdT → MvT → RwT → RwT → (Nat → RwT) → SoT → HeT → Option (Int32 × ThT × RtT × PoT × NuT × PaT × UnT × LiT × KeT × HlT × OuT × CtT × TxT × BdT × RdT × BdT × MvT × RwT × RwT × (Nat → RwT) × SoT × HeT)) (E : ThT) (G : RtT) (Q : PoT) (N : NuT) (A : PaT) (U : UnT) (Y : LiT) (K : KeT) (H : HlT) (O : OuT) (q : CtT) (T : TxT) (D : BdT) (r : RdT) (B : BdT) (V : MvT) (L : RwT) (F : RwT) (R : Nat → RwT) (S : SoT) (P : HeT) (x4 : Int32) : Option (Int32 × ThT × RtT × PoT × NuT × PaT × UnT × LiT × KeT × HlT × OuT × CtT × TxT × BdT × RdT × BdT × MvT × RwT × RwT × (Nat → RwT) × SoT × HeT) :=
  j_L_law_865 fu sn sx gg E G Q N A U Y K H O q T D r B V L F R S P x4
def j_L_law_610 (fu : Nat) (sn : Nat) (sx : Nat → Int32) (gg : Int32 → ThT → RtT → PoT → NuT → PaT → UnT → LiT → KeT → HlT → OuT → CtT → TxT → BdT → RdT → BdT → MvT → RwT → RwT → (Nat → RwT) → SoT → HeT → Option (Int32 × ThT × RtT × PoT × NuT × PaT × UnT × LiT × KeT × HlT × OuT × CtT × TxT × BdT × RdT × BdT × MvT × RwT × RwT × (Nat → RwT) × SoT × HeT)) (E : ThT) (G : RtT) (Q : PoT) (N : NuT) (A : PaT) (U : UnT) (Y : LiT) (K : KeT) (H : HlT) (O : OuT) (q : CtT) (T : TxT) (D : BdT) (r : RdT) (B : BdT) (V : MvT) (L : RwT) (F : RwT) (R : Nat → RwT) (S : SoT) (P : HeT) (x4 : Int32) : Option (Int32 × ThT × RtT × PoT × NuT × PaT × UnT × LiT × KeT × HlT × OuT × CtT × TxT × BdT × RdT × BdT × MvT × RwT × RwT × (Nat → RwT) × SoT × HeT) :=
  j_L_law_865 fu sn sx gg E G Q N A U Y K H O q T D r B V L F R S P x4
def j_L_law_702 (fu : Nat) (sn : Nat) (sx : Nat → Int32) (gg : Int32 → ThT → RtT → PoT → NuT → PaT → UnT → LiT → KeT → HlT → OuT → CtT → TxT → BdT → RdT → BdT → MvT → RwT → RwT → (Nat → RwT) → SoT → HeT → Option (Int32 × ThT × RtT × PoT × NuT × PaT × UnT × LiT × KeT × HlT × OuT × CtT × TxT × BdT × RdT × BdT × MvT × RwT × RwT × (Nat → RwT) × SoT × HeT)) (E : ThT) (G : RtT) (Q : PoT) (N : NuT) (A : PaT) (U : UnT) (Y : LiT) (K : KeT) (H : HlT) (O : OuT) (q : CtT) (T : TxT) (D : BdT) (r : RdT) (B : BdT) (V : MvT) (L : RwT) (F : RwT) (R : Nat → RwT) (S : SoT) (P : HeT) (x4 : Int32) : Option (Int32 × ThT × RtT × PoT × NuT × PaT × UnT × LiT × KeT × HlT × OuT × CtT × TxT × BdT × RdT × BdT × MvT × RwT × RwT × (Nat → RwT) × SoT × HeT) :=
  j_L_law_865 fu sn sx gg E G Q N A U Y K H O q T D r B V L F R S P x4
def j_L_law_770 (fu : Nat) (sn : Nat) (sx : Nat → Int32) (gg : Int32 → ThT → RtT → PoT → NuT → PaT → UnT → LiT → KeT → HlT → OuT → CtT → TxT → BdT → RdT → BdT → MvT → RwT → RwT → (Nat → RwT) → SoT → HeT → Option (Int32 × ThT × RtT × PoT × NuT × PaT × UnT × LiT × KeT × HlT × OuT × CtT × TxT × BdT × RdT × BdT × MvT × RwT × RwT × (Nat → RwT) × SoT × HeT)) (E : ThT) (G : RtT) (Q : PoT) (N : NuT) (A : PaT) (U : UnT) (Y : LiT) (K : KeT) (H : HlT) (O : OuT) (q : CtT) (T : TxT) (D : BdT) (r : RdT) (B : BdT) (V : MvT) (L : RwT) (F : RwT) (R : Nat → RwT) (S : SoT) (P : HeT) (x4 : Int32) : Option (Int32 × ThT × RtT × PoT × NuT × PaT × UnT × LiT × KeT × HlT × OuT × CtT × TxT × BdT × RdT × BdT × MvT × RwT × RwT × (Nat → RwT) × SoT × HeT) :=
  j_L_law_865 fu sn sx gg E G Q N A U Y K H O q T D r B V L F R S P x4
def j_L_law_862 (fu : Nat) (sn : Nat) (sx : Nat → Int32) (gg : Int32 → ThT → RtT → PoT → NuT → PaT → UnT → LiT → KeT → HlT → OuT → CtT → TxT → BdT → RdT → BdT → MvT → RwT → RwT → (Nat → RwT) → SoT → HeT → Option (Int32 × ThT × RtT × PoT × NuT × PaT × UnT × LiT × KeT × HlT × OuT × CtT × TxT × BdT × RdT × BdT × MvT × RwT × RwT × (Nat → RwT) × SoT × HeT)) (E : ThT) (G : RtT) (Q : PoT) (N : NuT) (A : PaT) (U : UnT) (Y : LiT) (K : KeT) (H : HlT) (O : OuT) (q : CtT) (T : TxT) (D : BdT) (r : RdT) (B : BdT) (V : MvT) (L : RwT) (F : RwT) (R : Nat → RwT) (S : SoT) (P : HeT) (x4 : Int32) : Option (Int32 × ThT × RtT × PoT × NuT × PaT × UnT × LiT × KeT × HlT × OuT × CtT × TxT × BdT × RdT × BdT × MvT × RwT × RwT × (Nat → RwT) × SoT × HeT) :=
  j_L_law_865 fu sn sx gg E G Q N A U Y K H O q T D r B V L F R S P x4
def b_L_law_23 (fu : Nat) (sn : Nat) (sx : Nat → Int32) (gg : Int32 → ThT → RtT → PoT → NuT → PaT → UnT → LiT → KeT → HlT → OuT → CtT → TxT → BdT → RdT → BdT → MvT → RwT → RwT → (Nat → RwT) → SoT → HeT → Option (Int32 × ThT × RtT × PoT × NuT × PaT × UnT × LiT × KeT × HlT × OuT × CtT × TxT × BdT × RdT × BdT × MvT × RwT × RwT × (Nat → RwT) × SoT × HeT)) (x4 : Int32) (E : ThT) (G : RtT) (Q : PoT) (N : NuT) (A : PaT) (U : UnT) (Y : LiT) (K : KeT) (H : HlT) (O : OuT) (q : CtT) (T : TxT) (D : BdT) (r : RdT) (B : BdT) (V : MvT) (L : RwT) (F : RwT) (R : Nat → RwT) (S : SoT) (P : HeT) : Option (Int32 × ThT × RtT × PoT × NuT × PaT × UnT × LiT × KeT × HlT × OuT × CtT × TxT × BdT × RdT × BdT × MvT × RwT × RwT × (Nat → RwT) × SoT × HeT) :=
  if ((Int32.ofNat sn) - (5 : Int32)) < x4 then
    some ((1 : Int32), E, G, Q, N, A, U, Y, K, H, O, q, T, D, r, B, V, L, F, R, S, P)
  else
    if am_in x4 sn = true then
      if ((sx (x4).toNatClampNeg) &&& (15 : Int32)) = (0 : Int32) then
        if am_in (x4 + (1 : Int32)) sn = true then
          if am_in (x4 + (2 : Int32)) sn = true then
            if am_in (x4 + (3 : Int32)) sn = true then
              (f_Mp_type fu ((am_shl ((sx ((x4 + (1 : Int32))).toNatClampNeg)).toInt64 (32 : Int32)) ||| (((sx ((x4 + (2 : Int32))).toNatClampNeg)).toInt64 &&& (4294967295 : Int64))) (sx ((x4 + (3 : Int32))).toNatClampNeg) T).bind fun (r1, tg2) =>
              if am_in (x4 + (1 : Int32)) sn = true then
                if am_in (x4 + (2 : Int32)) sn = true then
                  if am_in (x4 + (3 : Int32)) sn = true then
                    (f_M_type fu ((am_shl ((sx ((x4 + (1 : Int32))).toNatClampNeg)).toInt64 (32 : Int32)) ||| (((sx ((x4 + (2 : Int32))).toNatClampNeg)).toInt64 &&& (4294967295 : Int64))) (sx ((x4 + (3 : Int32))).toNatClampNeg) E G).bind fun (r3, eg4, gg5) =>
                    if r1 = r3 then
                      j_L_law_865 fu sn sx gg eg4 gg5 Q N A U Y K H O q tg2 D r B V L F R S P x4
                    else
                      some ((0 : Int32), eg4, gg5, Q, N, A, U, Y, K, H, O, q, tg2, D, r, B, V, L, F, R, S, P)
                  else none
                else none
              else none
            else none
          else none
        else none
      else if ((sx (x4).toNatClampNeg) &&& (15 : Int32)) = (1 : Int32) then
        if am_in (x4 + (1 : Int32)) sn = true then
          (f_Mp_cut (sx ((x4 + (1 : Int32))).toNatClampNeg) T).bind fun (r6, tg7) =>
          if am_in (x4 + (1 : Int32)) sn = true then
            (f_M_cut (sx ((x4 + (1 : Int32))).toNatClampNeg) E G).bind fun (r8, eg9, gg10) =>
            if r6 = r8 then
              j_L_law_865 fu sn sx gg eg9 gg10 Q N A U Y K H O q tg7 D r B V L F R S P x4
            else
              some ((0 : Int32), eg9, gg10, Q, N, A, U, Y, K, H, O, q, tg7, D, r, B, V, L, F, R, S, P)
          else none
        else none
      else if ((sx (x4).toNatClampNeg) &&& (15 : Int32)) = (2 : Int32) then
        (f_Mp_load fu T D r B L F P).bind fun (r11, tg12, dg13, rg14, bg15, lg16, fg17, pg18) =>
        (f_M_load fu E G Q N A K).bind fun (r19, eg20, gg21, qg22, ng23, ag24, kg25) =>
        if r11 = r19 then
          j_L_law_865 fu sn sx gg eg20 gg21 qg22 ng23 ag24 U Y kg25 H O q tg12 dg13 rg14 bg15 V lg16 fg17 R S pg18 x4
        else
          some ((0 : Int32), eg20, gg21, qg22, ng23, ag24, U, Y, kg25, H, O, q, tg12, dg13, rg14, bg15, V, lg16, fg17, R, S, pg18)
      else if ((sx (x4).toNatClampNeg) &&& (15 : Int32)) = (3 : Int32) then
        (f_Mp_moves L).bind fun r26 =>
        (f_M_moves fu E Q U Y).bind fun (r27, eg28, qg29, ug30, yg31) =>
        if r26 = r27 then
          j_L_law_865 fu sn sx gg eg28 G qg29 N A ug30 yg31 K H O q T D r B V L F R S P x4
        else
          some ((0 : Int32), eg28, G, qg29, N, A, ug30, yg31, K, H, O, q, T, D, r, B, V, L, F, R, S, P)
      else if ((sx (x4).toNatClampNeg) &&& (15 : Int32)) = (4 : Int32) then
        if am_in (x4 + (1 : Int32)) sn = true then
          (f_L_move (sx ((x4 + (1 : Int32))).toNatClampNeg) O q L).bind fun (r32, og33, qg34) =>
          if am_in (x4 + (1 : Int32)) sn = true then
            (f_M_move fu (sx ((x4 + (1 : Int32))).toNatClampNeg) E Q U Y).bind fun (r35, eg36, qg37, ug38, yg39) =>
            (f_M_thrown eg36).bind fun r40 =>
            if r40 = r32 then
              if ¬ r32 = (0 : Int32) then
                j_L_law_281 fu sn sx gg eg36 G qg37 N A ug38 yg39 K H og33 qg34 T D r B V L F R S P x4
              else
                if am_in (0 : Int32) 1 = true then
                  if (lg_cmp (og33 ((0 : Int32)).toNatClampNeg) (r35).toInt64) = (0 : Int32) then
                    j_L_law_281 fu sn sx gg eg36 G qg37 N A ug38 yg39 K H og33 qg34 T D r B V L F R S P x4
                  else
                    some ((0 : Int32), eg36, G, qg37, N, A, ug38, yg39, K, H, og33, qg34, T, D, r, B, V, L, F, R, S, P)
                else none
            else
              some ((0 : Int32), eg36, G, qg37, N, A, ug38, yg39, K, H, og33, qg34, T, D, r, B, V, L, F, R, S, P)
          else none
        else none
      else if ((sx (x4).toNatClampNeg) &&& (15 : Int32)) = (5 : Int32) then
        if am_in (x4 + (1 : Int32)) sn = true then
          (f_L_play fu (sx ((x4 + (1 : Int32))).toNatClampNeg) O q B L F P).bind fun (r41, og42, qg43, bg44, lg45, fg46, pg47) =>
          if am_in (x4 + (1 : Int32)) sn = true then
            (f_M_play fu (sx ((x4 + (1 : Int32))).toNatClampNeg) E Q A U Y K).bind fun (r48, eg49, qg50, ag51, ug52, yg53, kg54) =>
            (f_M_thrown eg49).bind fun r55 =>
            if r55 = r41 then
              if ¬ r41 = (0 : Int32) then
                j_L_law_337 fu sn sx gg eg49 G qg50 N ag51 ug52 yg53 kg54 H og42 qg43 T D r bg44 V lg45 fg46 R S pg47 x4
              else
                if am_in (0 : Int32) 1 = true then
                  if (lg_cmp (og42 ((0 : Int32)).toNatClampNeg) (r48).toInt64) = (0 : Int32) then
                    j_L_law_337 fu sn sx gg eg49 G qg50 N ag51 ug52 yg53 kg54 H og42 qg43 T D r bg44 V lg45 fg46 R S pg47 x4
                  else
                    some ((0 : Int32), eg49, G, qg50, N, ag51, ug52, yg53, kg54, H, og42, qg43, T, D, r, bg44, V, lg45, fg46, R, S, pg47)
                else none
            else
              some ((0 : Int32), eg49, G, qg50, N, ag51, ug52, yg53, kg54, H, og42, qg43, T, D, r, bg44, V, lg45, fg46, R, S, pg47)
          else none
        else none
      else if ((sx (x4).toNatClampNeg) &&& (15 : Int32)) = (6 : Int32) then
        (f_L_back fu O q B L F P).bind fun (r56, og57, qg58, bg59, lg60, fg61, pg62) =>
        (f_M_back fu E Q A K).bind fun (r63, eg64, qg65, ag66, kg67) =>
        (f_M_thrown eg64).bind fun r68 =>
        if r68 = r56 then
          if ¬ r56 = (0 : Int32) then
            j_L_law_381 fu sn sx gg eg64 G qg65 N ag66 U Y kg67 H og57 qg58 T D r bg59 V lg60 fg61 R S pg62 x4
          else
            if am_in (0 : Int32) 1 = true then
              if (lg_cmp (og57 ((0 : Int32)).toNatClampNeg) (r63).toInt64) = (0 : Int32) then
                j_L_law_381 fu sn sx gg eg64 G qg65 N ag66 U Y kg67 H og57 qg58 T D r bg59 V lg60 fg61 R S pg62 x4
              else
                some ((0 : Int32), eg64, G, qg65, N, ag66, U, Y, kg67, H, og57, qg58, T, D, r, bg59, V, lg60, fg61, R, S, pg62)
            else none
        else
          some ((0 : Int32), eg64, G, qg65, N, ag66, U, Y, kg67, H, og57, qg58, T, D, r, bg59, V, lg60, fg61, R, S, pg62)
      else if ((sx (x4).toNatClampNeg) &&& (15 : Int32)) = (7 : Int32) then
        (f_Mp_beaten fu B L).bind fun r69 =>
        (f_M_beaten fu E Q U Y).bind fun (r70, eg71, qg72, ug73, yg74) =>
        if r69 = r70 then
          j_L_law_865 fu sn sx gg eg71 G qg72 N A ug73 yg74 K H O q T D r B V L F R S P x4
        else
          some ((0 : Int32), eg71, G, qg72, N, A, ug73, yg74, K, H, O, q, T, D, r, B, V, L, F, R, S, P)
      else if ((sx (x4).toNatClampNeg) &&& (15 : Int32)) = (8 : Int32) then
        if am_in (x4 + (1 : Int32)) sn = true then
          if am_in (x4 + (2 : Int32)) sn = true then
            if am_in (x4 + (3 : Int32)) sn = true then
              (f_L_keys fu (sx ((x4 + (1 : Int32))).toNatClampNeg) (sx ((x4 + (2 : Int32))).toNatClampNeg) (sx ((x4 + (3 : Int32))).toNatClampNeg) O q B V L F R S).bind fun (r75, og76, qg77, bg78, vg79, fg80, rg81, sg82) =>
              if am_in (x4 + (1 : Int32)) sn = true then
                if am_in (x4 + (2 : Int32)) sn = true then
                  if am_in (x4 + (3 : Int32)) sn = true then
                    (f_M_keys fu (sx ((x4 + (1 : Int32))).toNatClampNeg) (sx ((x4 + (2 : Int32))).toNatClampNeg) (sx ((x4 + (3 : Int32))).toNatClampNeg) E Q U Y K).bind fun (r83, eg84, qg85, ug86, yg87, kg88) =>
                    (f_M_thrown eg84).bind fun r89 =>
                    if r89 = r75 then
                      if ¬ r75 = (0 : Int32) then
                        j_L_law_474 fu sn sx gg eg84 G qg85 N A ug86 yg87 kg88 H og76 qg77 T D r bg78 vg79 L fg80 rg81 sg82 P x4
                      else
                        if am_in (0 : Int32) 1 = true then
                          if (lg_cmp (og76 ((0 : Int32)).toNatClampNeg) (r83).toInt64) = (0 : Int32) then
                            j_L_law_474 fu sn sx gg eg84 G qg85 N A ug86 yg87 kg88 H og76 qg77 T D r bg78 vg79 L fg80 rg81 sg82 P x4
                          else
                            some ((0 : Int32), eg84, G, qg85, N, A, ug86, yg87, kg88, H, og76, qg77, T, D, r, bg78, vg79, L, fg80, rg81, sg82, P)
                        else none
                    else
                      some ((0 : Int32), eg84, G, qg85, N, A, ug86, yg87, kg88, H, og76, qg77, T, D, r, bg78, vg79, L, fg80, rg81, sg82, P)
                  else none
                else none
              else none
            else none
          else none
        else none
      else if ((sx (x4).toNatClampNeg) &&& (15 : Int32)) = (9 : Int32) then
        if am_in (x4 + (1 : Int32)) sn = true then
          (f_L_key (sx ((x4 + (1 : Int32))).toNatClampNeg) O q F).bind fun (r90, og91, qg92) =>
          if am_in (x4 + (1 : Int32)) sn = true then
            (f_M_key (sx ((x4 + (1 : Int32))).toNatClampNeg) E K).bind fun (r93, eg94) =>
            (f_M_thrown eg94).bind fun r95 =>
            if r95 = r90 then
              if ¬ r90 = (0 : Int32) then
                j_L_law_530 fu sn sx gg eg94 G Q N A U Y K H og91 qg92 T D r B V L F R S P x4
              else
                if am_in (0 : Int32) 1 = true then
                  if (lg_cmp (og91 ((0 : Int32)).toNatClampNeg) (r93).toInt64) = (0 : Int32) then
                    j_L_law_530 fu sn sx gg eg94 G Q N A U Y K H og91 qg92 T D r B V L F R S P x4
                  else
                    some ((0 : Int32), eg94, G, Q, N, A, U, Y, K, H, og91, qg92, T, D, r, B, V, L, F, R, S, P)
                else none
            else
              some ((0 : Int32), eg94, G, Q, N, A, U, Y, K, H, og91, qg92, T, D, r, B, V, L, F, R, S, P)
          else none
        else none
      else if ((sx (x4).toNatClampNeg) &&& (15 : Int32)) = (10 : Int32) then
        if am_in (x4 + (1 : Int32)) sn = true then
          if am_in (x4 + (2 : Int32)) sn = true then
            if am_in (x4 + (3 : Int32)) sn = true then
              (f_L_least fu (sx ((x4 + (1 : Int32))).toNatClampNeg) (sx ((x4 + (2 : Int32))).toNatClampNeg) (sx ((x4 + (3 : Int32))).toNatClampNeg) O q B V R S).bind fun (r96, og97, qg98, bg99, vg100, rg101, sg102) =>
              if am_in (x4 + (1 : Int32)) sn = true then
                if am_in (x4 + (2 : Int32)) sn = true then
                  if am_in (x4 + (3 : Int32)) sn = true then
                    (f_M_least fu (sx ((x4 + (1 : Int32))).toNatClampNeg) (sx ((x4 + (2 : Int32))).toNatClampNeg) (sx ((x4 + (3 : Int32))).toNatClampNeg) E Q U Y).bind fun (r103, eg104, qg105, ug106, yg107) =>
                    (f_M_thrown eg104).bind fun r108 =>
                    if r108 = r96 then
                      if ¬ r96 = (0 : Int32) then
                        j_L_law_610 fu sn sx gg eg104 G qg105 N A ug106 yg107 K H og97 qg98 T D r bg99 vg100 L F rg101 sg102 P x4
                      else
                        if am_in (0 : Int32) 1 = true then
                          if (lg_cmp (og97 ((0 : Int32)).toNatClampNeg) (r103).toInt64) = (0 : Int32) then
                            j_L_law_610 fu sn sx gg eg104 G qg105 N A ug106 yg107 K H og97 qg98 T D r bg99 vg100 L F rg101 sg102 P x4
                          else
                            some ((0 : Int32), eg104, G, qg105, N, A, ug106, yg107, K, H, og97, qg98, T, D, r, bg99, vg100, L, F, rg101, sg102, P)
                        else none
                    else
                      some ((0 : Int32), eg104, G, qg105, N, A, ug106, yg107, K, H, og97, qg98, T, D, r, bg99, vg100, L, F, rg101, sg102, P)
                  else none
                else none
              else none
            else none
          else none
        else none
      else if ((sx (x4).toNatClampNeg) &&& (15 : Int32)) = (11 : Int32) then
        if am_in (x4 + (1 : Int32)) sn = true then
          if am_in (x4 + (2 : Int32)) sn = true then
            if am_in (x4 + (3 : Int32)) sn = true then
              if am_in (x4 + (4 : Int32)) sn = true then
                (f_L_refuted fu (sx ((x4 + (1 : Int32))).toNatClampNeg) (sx ((x4 + (2 : Int32))).toNatClampNeg) (sx ((x4 + (3 : Int32))).toNatClampNeg) (sx ((x4 + (4 : Int32))).toNatClampNeg) O q B V L R S).bind fun (r109, og110, qg111, bg112, vg113, rg114, sg115) =>
                if am_in (x4 + (1 : Int32)) sn = true then
                  if am_in (x4 + (2 : Int32)) sn = true then
                    if am_in (x4 + (3 : Int32)) sn = true then
                      if am_in (x4 + (4 : Int32)) sn = true then
                        (f_M_refuted fu (sx ((x4 + (1 : Int32))).toNatClampNeg) (sx ((x4 + (2 : Int32))).toNatClampNeg) (sx ((x4 + (3 : Int32))).toNatClampNeg) (sx ((x4 + (4 : Int32))).toNatClampNeg) E Q U Y).bind fun (r116, eg117, qg118, ug119, yg120) =>
                        (f_M_thrown eg117).bind fun r121 =>
                        if r121 = r109 then
                          if ¬ r109 = (0 : Int32) then
                            j_L_law_702 fu sn sx gg eg117 G qg118 N A ug119 yg120 K H og110 qg111 T D r bg112 vg113 L F rg114 sg115 P x4
                          else
                            if am_in (0 : Int32) 1 = true then
                              if (lg_cmp (og110 ((0 : Int32)).toNatClampNeg) (r116).toInt64) = (0 : Int32) then
                                j_L_law_702 fu sn sx gg eg117 G qg118 N A ug119 yg120 K H og110 qg111 T D r bg112 vg113 L F rg114 sg115 P x4
                              else
                                some ((0 : Int32), eg117, G, qg118, N, A, ug119, yg120, K, H, og110, qg111, T, D, r, bg112, vg113, L, F, rg114, sg115, P)
                            else none
                        else
                          some ((0 : Int32), eg117, G, qg118, N, A, ug119, yg120, K, H, og110, qg111, T, D, r, bg112, vg113, L, F, rg114, sg115, P)
                      else none
                    else none
                  else none
                else none
              else none
            else none
          else none
        else none
      else if ((sx (x4).toNatClampNeg) &&& (15 : Int32)) = (12 : Int32) then
        if am_in (x4 + (1 : Int32)) sn = true then
          if am_in (x4 + (2 : Int32)) sn = true then
            (f_L_lines fu (sx ((x4 + (1 : Int32))).toNatClampNeg) (sx ((x4 + (2 : Int32))).toNatClampNeg) O q B V R P).bind fun (r122, og123, qg124, bg125, vg126, rg127, pg128) =>
            if am_in (x4 + (1 : Int32)) sn = true then
              if am_in (x4 + (2 : Int32)) sn = true then
                (f_M_lines fu (sx ((x4 + (1 : Int32))).toNatClampNeg) (sx ((x4 + (2 : Int32))).toNatClampNeg) E Q U Y H).bind fun (r129, eg130, qg131, ug132, yg133, hg134) =>
                (f_M_thrown eg130).bind fun r135 =>
                if r135 = r122 then
                  if ¬ r122 = (0 : Int32) then
                    j_L_law_770 fu sn sx gg eg130 G qg131 N A ug132 yg133 K hg134 og123 qg124 T D r bg125 vg126 L F rg127 S pg128 x4
                  else
                    if am_in (0 : Int32) 1 = true then
                      if (lg_cmp (og123 ((0 : Int32)).toNatClampNeg) (r129).toInt64) = (0 : Int32) then
                        j_L_law_770 fu sn sx gg eg130 G qg131 N A ug132 yg133 K hg134 og123 qg124 T D r bg125 vg126 L F rg127 S pg128 x4
                      else
                        some ((0 : Int32), eg130, G, qg131, N, A, ug132, yg133, K, hg134, og123, qg124, T, D, r, bg125, vg126, L, F, rg127, S, pg128)
                    else none
                else
                  some ((0 : Int32), eg130, G, qg131, N, A, ug132, yg133, K, hg134, og123, qg124, T, D, r, bg125, vg126, L, F, rg127, S, pg128)
              else none
            else none
          else none
        else none
      else if ((sx (x4).toNatClampNeg) &&& (15 : Int32)) = (13 : Int32) then
        if am_in (x4 + (1 : Int32)) sn = true then
          if am_in (x4 + (2 : Int32)) sn = true then
            if am_in (x4 + (3 : Int32)) sn = true then
              if am_in (x4 + (4 : Int32)) sn = true then
                (f_L_line fu (sx ((x4 + (1 : Int32))).toNatClampNeg) (sx ((x4 + (2 : Int32))).toNatClampNeg) (sx ((x4 + (3 : Int32))).toNatClampNeg) (sx ((x4 + (4 : Int32))).toNatClampNeg) O q B V R P).bind fun (r136, og137, qg138, bg139, vg140, rg141, pg142) =>
                if am_in (x4 + (1 : Int32)) sn = true then
                  if am_in (x4 + (2 : Int32)) sn = true then
                    if am_in (x4 + (3 : Int32)) sn = true then
                      if am_in (x4 + (4 : Int32)) sn = true then
                        (f_M_line fu (sx ((x4 + (1 : Int32))).toNatClampNeg) (sx ((x4 + (2 : Int32))).toNatClampNeg) (sx ((x4 + (3 : Int32))).toNatClampNeg) (sx ((x4 + (4 : Int32))).toNatClampNeg) E Q U Y H).bind fun (r143, eg144, qg145, ug146, yg147, hg148) =>
                        (f_M_thrown eg144).bind fun r149 =>
                        if r149 = r136 then
                          if ¬ r136 = (0 : Int32) then
                            j_L_law_862 fu sn sx gg eg144 G qg145 N A ug146 yg147 K hg148 og137 qg138 T D r bg139 vg140 L F rg141 S pg142 x4
                          else
                            if am_in (0 : Int32) 1 = true then
                              if (lg_cmp (og137 ((0 : Int32)).toNatClampNeg) (r143).toInt64) = (0 : Int32) then
                                j_L_law_862 fu sn sx gg eg144 G qg145 N A ug146 yg147 K hg148 og137 qg138 T D r bg139 vg140 L F rg141 S pg142 x4
                              else
                                some ((0 : Int32), eg144, G, qg145, N, A, ug146, yg147, K, hg148, og137, qg138, T, D, r, bg139, vg140, L, F, rg141, S, pg142)
                            else none
                        else
                          some ((0 : Int32), eg144, G, qg145, N, A, ug146, yg147, K, hg148, og137, qg138, T, D, r, bg139, vg140, L, F, rg141, S, pg142)
                      else none
                    else none
                  else none
                else none
              else none
            else none
          else none
        else none
      else j_L_law_865 fu sn sx gg E G Q N A U Y K H O q T D r B V L F R S P x4
    else none
def l_L_law_23 (fu : Nat) (sn : Nat) (sx : Nat → Int32) : Nat → Int32 → ThT → RtT → PoT → NuT → PaT → UnT → LiT → KeT → HlT → OuT → CtT → TxT → BdT → RdT → BdT → MvT → RwT → RwT → (Nat → RwT) → SoT → HeT → Option (Int32 × ThT × RtT × PoT × NuT × PaT × UnT × LiT × KeT × HlT × OuT × CtT × TxT × BdT × RdT × BdT × MvT × RwT × RwT × (Nat → RwT) × SoT × HeT)
  | 0 => fun _ _ _ _ _ _ _ _ _ _ _ _ _ _ _ _ _ _ _ _ _ _ => none
  | n + 1 => b_L_law_23 fu sn sx (l_L_law_23 fu sn sx n)
def f_L_law (fu : Nat) (sn : Nat) (sx : Nat → Int32) (E : ThT) (G : RtT) (Q : PoT) (N : NuT) (A : PaT) (U : UnT) (Y : LiT) (K : KeT) (H : HlT) (O : OuT) (q : CtT) (T : TxT) (D : BdT) (r : RdT) (B : BdT) (V : MvT) (L : RwT) (F : RwT) (R : Nat → RwT) (S : SoT) (P : HeT) : Option (Int32 × ThT × RtT × PoT × NuT × PaT × UnT × LiT × KeT × HlT × OuT × CtT × TxT × BdT × RdT × BdT × MvT × RwT × RwT × (Nat → RwT) × SoT × HeT) :=
  l_L_law_23 fu sn sx fu (0 : Int32) E G Q N A U Y K H O q T D r B V L F R S P
