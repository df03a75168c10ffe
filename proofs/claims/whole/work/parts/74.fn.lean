abbrev TxT : Type := (Nat → Int32) × Int32
abbrev tx_chars (g : TxT) : Nat → Int32 := g.1
abbrev tx_length (g : TxT) : Int32 := g.2
abbrev RdT : Type := Int32
abbrev BdT : Type := (Nat → Int32) × (Nat → Int64) × (Nat → Int32) × Int32 × Int32 × Int32 × Int32 × (Nat → Int32) × (Nat → Int32) × (Nat → Int32) × (Nat → Int32) × (Nat → Int32)
abbrev bd_men (g : BdT) : Nat → Int32 := g.1
abbrev bd_held (g : BdT) : Nat → Int64 := g.2.1
abbrev bd_kings (g : BdT) : Nat → Int32 := g.2.2.1
abbrev bd_side (g : BdT) : Int32 := g.2.2.2.1
abbrev bd_rights (g : BdT) : Int32 := g.2.2.2.2.1
abbrev bd_passed (g : BdT) : Int32 := g.2.2.2.2.2.1
abbrev bd_depth (g : BdT) : Int32 := g.2.2.2.2.2.2.1
abbrev bd_made (g : BdT) : Nat → Int32 := g.2.2.2.2.2.2.2.1
abbrev bd_taken (g : BdT) : Nat → Int32 := g.2.2.2.2.2.2.2.2.1
abbrev bd_takenAt (g : BdT) : Nat → Int32 := g.2.2.2.2.2.2.2.2.2.1
abbrev bd_rightsBefore (g : BdT) : Nat → Int32 := g.2.2.2.2.2.2.2.2.2.2.1
abbrev bd_passedBefore (g : BdT) : Nat → Int32 := g.2.2.2.2.2.2.2.2.2.2.2
abbrev MvT : Type := (Nat → Int64) × Int64
abbrev mv_aims (g : MvT) : Nat → Int64 := g.1
abbrev mv_hiding (g : MvT) : Int64 := g.2
abbrev RwT : Type := (Nat → Int32) × Int32
abbrev rw_told (g : RwT) : Nat → Int32 := g.1
abbrev rw_count (g : RwT) : Int32 := g.2
abbrev SoT : Type := (Nat → Int32) × Int32 × Int32
abbrev so_hints (g : SoT) : Nat → Int32 := g.1
abbrev so_kind (g : SoT) : Int32 := g.2.1
abbrev so_goal (g : SoT) : Int32 := g.2.2
abbrev HeT : Type := (Nat → Int32) × (Nat → Int32) × Int32 × Int32 × Int32 × Int32 × Int32
abbrev he_path (g : HeT) : Nat → Int32 := g.1
abbrev he_kept (g : HeT) : Nat → Int32 := g.2.1
abbrev he_firstKept (g : HeT) : Int32 := g.2.2.1
abbrev he_known (g : HeT) : Int32 := g.2.2.2.1
abbrev he_goal (g : HeT) : Int32 := g.2.2.2.2.1
abbrev he_plies (g : HeT) : Int32 := g.2.2.2.2.2.1
abbrev he_count (g : HeT) : Int32 := g.2.2.2.2.2.2
abbrev PoT : Type := (Nat → Int32) × Int32 × Int32 × Int32 × Int32
abbrev po_men (g : PoT) : Nat → Int32 := g.1
abbrev po_side (g : PoT) : Int32 := g.2.1
abbrev po_rights (g : PoT) : Int32 := g.2.2.1
abbrev po_passed (g : PoT) : Int32 := g.2.2.2.1
abbrev po_clock (g : PoT) : Int32 := g.2.2.2.2
abbrev UnT : Type := (Nat → Int32) × (Nat → Int32) × (Nat → Int32) × (Nat → Int32) × (Nat → Int32) × (Nat → Int32)
abbrev un_undoMan (g : UnT) : Nat → Int32 := g.1
abbrev un_undoTaken (g : UnT) : Nat → Int32 := g.2.1
abbrev un_undoWhere (g : UnT) : Nat → Int32 := g.2.2.1
abbrev un_undoRights (g : UnT) : Nat → Int32 := g.2.2.2.1
abbrev un_undoPassed (g : UnT) : Nat → Int32 := g.2.2.2.2.1
abbrev un_undoClock (g : UnT) : Nat → Int32 := g.2.2.2.2.2
abbrev LiT : Type := (Nat → Int32) × (Nat → Int32)
abbrev li_lists (g : LiT) : Nat → Int32 := g.1
abbrev li_counts (g : LiT) : Nat → Int32 := g.2
abbrev PaT : Type := (Nat → Int32) × (Nat → Int32) × (Nat → Int32) × (Nat → Int32) × Int32
abbrev pa_pastMen (g : PaT) : Nat → Int32 := g.1
abbrev pa_pastSide (g : PaT) : Nat → Int32 := g.2.1
abbrev pa_pastRights (g : PaT) : Nat → Int32 := g.2.2.1
abbrev pa_pastPassed (g : PaT) : Nat → Int32 := g.2.2.2.1
abbrev pa_plies (g : PaT) : Int32 := g.2.2.2.2
abbrev KeT : Type := Int32 × (Nat → Int32)
abbrev ke_keyCount (g : KeT) : Int32 := g.1
abbrev ke_keyMoves (g : KeT) : Nat → Int32 := g.2
abbrev HlT : Type := Int32 × Int32 × (Nat → Int32) × (Nat → Int32)
abbrev hl_before (g : HlT) : Int32 := g.1
abbrev hl_met (g : HlT) : Int32 := g.2.1
abbrev hl_helpLine (g : HlT) : Nat → Int32 := g.2.2.1
abbrev hl_tried (g : HlT) : Nat → Int32 := g.2.2.2
abbrev RtT : Type := (Nat → Int32) × Int32
abbrev rt_text (g : RtT) : Nat → Int32 := g.1
abbrev rt_typed (g : RtT) : Int32 := g.2
abbrev OuT : Type := Nat → Int64
abbrev NxT : Type := Nat → Int32
abbrev CtT : Type := Nat × Nat
abbrev NuT : Type := Int32
abbrev ThT : Type := Int32
/-- the square one step that way -/
def tb_next (j : Nat) : Int32 :=
  cond (Nat.blt j 1024) (cond (decide (0 ≤ ((j % 8 : Nat) : Int) + (tb_FILE_STEP (j / 64)).toInt ∧ ((j % 8 : Nat) : Int) + (tb_FILE_STEP (j / 64)).toInt < 8 ∧ 0 ≤ ((j / 8 % 8 : Nat) : Int) + (tb_RANK_STEP (j / 64)).toInt ∧ ((j / 8 % 8 : Nat) : Int) + (tb_RANK_STEP (j / 64)).toInt < 8))
    (Int32.ofInt (((j % 8 : Nat) : Int) + (tb_FILE_STEP (j / 64)).toInt + 8 * (((j / 8 % 8 : Nat) : Int) + (tb_RANK_STEP (j / 64)).toInt))) (-1)) 0
def f_Text_byteOf (l0 : Int64) (x2 : Int32) : Option (Int32) :=
  some (((am_ushr l0 ((8 : Int32) * x2))).toInt32 &&& (255 : Int32))
def b_Text_append_27 (fu : Nat) (T : TxT) (l1 : Int64) (x3 : Int32) (gg : Int32 → Option (((Unit)) ⊕ (Int32 × TxT))) (x4 : Int32) : Option (((Unit)) ⊕ (Int32 × TxT)) :=
  if x3 ≤ x4 then
    some (.inl ())
  else
    (f_Text_byteOf l1 x4).bind fun r1 =>
    if r1 < (32 : Int32) then
      some (.inr ((0 : Int32), T))
    else
      if r1 ≤ (126 : Int32) then
        gg (x4 + (1 : Int32))
      else
        some (.inr ((0 : Int32), T))
def l_Text_append_27 (fu : Nat) (T : TxT) (l1 : Int64) (x3 : Int32) : Nat → Int32 → Option (((Unit)) ⊕ (Int32 × TxT))
  | 0 => fun _ => none
  | n + 1 => b_Text_append_27 fu T l1 x3 (l_Text_append_27 fu T l1 x3 n)
def b_Text_append_66 (fu : Nat) (l1 : Int64) (x3 : Int32) (gg : Int32 → TxT → Option ((TxT))) (x4 : Int32) (T : TxT) : Option ((TxT)) :=
  if x3 ≤ x4 then
    some T
  else
    (f_Text_byteOf l1 x4).bind fun r2 =>
    if am_in ((tx_length T) + x4) 100 = true then
      gg (x4 + (1 : Int32)) ((upd (tx_chars T) (((tx_length T) + x4)).toNatClampNeg (vp_nar .char (am_i2c r2))), (tx_length T))
    else none
def l_Text_append_66 (fu : Nat) (l1 : Int64) (x3 : Int32) : Nat → Int32 → TxT → Option ((TxT))
  | 0 => fun _ _ => none
  | n + 1 => b_Text_append_66 fu l1 x3 (l_Text_append_66 fu l1 x3 n)
def j_Text_append_97 (fu : Nat) (T : TxT) (x3 : Int32) : Option (Int32 × TxT) :=
  some ((1 : Int32), ((tx_chars T), ((tx_length T) + x3)))
def j_Text_append_63 (fu : Nat) (T : TxT) (l1 : Int64) (x3 : Int32) : Option (Int32 × TxT) :=
  (l_Text_append_66 fu l1 x3 fu (0 : Int32) T).bind fun tz_1 =>
  j_Text_append_97 fu tz_1 x3
def f_Text_append (fu : Nat) (l1 : Int64) (x3 : Int32) (T : TxT) : Option (Int32 × TxT) :=
  if x3 < (1 : Int32) then
    some ((0 : Int32), T)
  else
    if (8 : Int32) < x3 then
      some ((0 : Int32), T)
    else
      if ((tx_length T) + x3) ≤ (100 : Int32) then
        (l_Text_append_27 fu T l1 x3 fu (0 : Int32)).bind fun z => match z with
        | .inl () =>
          j_Text_append_63 fu T l1 x3
        | .inr z => some z
      else
        some ((0 : Int32), T)
def f_Mp_type (fu : Nat) (l1 : Int64) (x3 : Int32) (T : TxT) : Option (Int32 × TxT) :=
  (f_Text_append fu l1 x3 T).bind fun (r1, tg2) =>
  some ((vp_nar .boolean r1), tg2)
def f_Text_shorten (x1 : Int32) (T : TxT) : Option (Int32 × TxT) :=
  if x1 < (0 : Int32) then
    some ((0 : Int32), T)
  else
    if x1 ≤ (tx_length T) then
      some ((1 : Int32), ((tx_chars T), x1))
    else
      some ((0 : Int32), T)
def f_Mp_cut (x1 : Int32) (T : TxT) : Option (Int32 × TxT) :=
  (f_Text_shorten x1 T).bind fun (r1, tg2) =>
  some ((vp_nar .boolean r1), tg2)
def b_Board_clear_2 (fu : Nat) (gg : Int32 → BdT → Option ((BdT))) (x1 : Int32) (b : BdT) : Option ((BdT)) :=
  if (64 : Int32) ≤ x1 then
    some b
  else
    if am_in x1 64 = true then
      gg (x1 + (1 : Int32)) ((upd (bd_men b) (x1).toNatClampNeg (0 : Int32)), (bd_held b), (bd_kings b), (bd_side b), (bd_rights b), (bd_passed b), (bd_depth b), (bd_made b), (bd_taken b), (bd_takenAt b), (bd_rightsBefore b), (bd_passedBefore b))
    else none
def l_Board_clear_2 (fu : Nat) : Nat → Int32 → BdT → Option ((BdT))
  | 0 => fun _ _ => none
  | n + 1 => b_Board_clear_2 fu (l_Board_clear_2 fu n)
def j_Board_clear_21 (fu : Nat) (b : BdT) : Option (BdT) :=
  if am_in (0 : Int32) 2 = true then
    if am_in (1 : Int32) 2 = true then
      some ((bd_men b), (vp_updL (vp_updL (bd_held b) ((0 : Int32)).toNatClampNeg (0 : Int64)) ((1 : Int32)).toNatClampNeg (0 : Int64)), (bd_kings b), (0 : Int32), (0 : Int32), (-1 : Int32), (0 : Int32), (bd_made b), (bd_taken b), (bd_takenAt b), (bd_rightsBefore b), (bd_passedBefore b))
    else none
  else none
def f_Board_clear (fu : Nat) (b : BdT) : Option (BdT) :=
  (l_Board_clear_2 fu fu (0 : Int32) b).bind fun bz_1 =>
  j_Board_clear_21 fu bz_1
def f_Text_at (x1 : Int32) (T : TxT) : Option (Int32) :=
  if x1 < (0 : Int32) then
    some (0 : Int32)
  else
    if (tx_length T) ≤ x1 then
      some (0 : Int32)
    else
      if am_in x1 100 = true then
        some (vp_nar .char ((tx_chars T) (x1).toNatClampNeg))
      else none
def j_Reader_manOf_29 (fu : Nat) (gg : Int32 → Option (Int32)) (x0 : Int32) (x1 : Int32) : Option (Int32) :=
  gg (x1 + (1 : Int32))
def b_Reader_manOf_2 (fu : Nat) (x0 : Int32) (gg : Int32 → Option (Int32)) (x1 : Int32) : Option (Int32) :=
  if (15 : Int32) ≤ x1 then
    some (0 : Int32)
  else
    if x0 = (32 : Int32) then
      j_Reader_manOf_29 fu gg x0 x1
    else
      if am_in x1 15 = true then
        if ¬ (tb_LETTERS (x1).toNatClampNeg) = x0 then
          j_Reader_manOf_29 fu gg x0 x1
        else
          some x1
      else none
def l_Reader_manOf_2 (fu : Nat) (x0 : Int32) : Nat → Int32 → Option (Int32)
  | 0 => fun _ => none
  | n + 1 => b_Reader_manOf_2 fu x0 (l_Reader_manOf_2 fu x0 n)
def f_Reader_manOf (fu : Nat) (x0 : Int32) : Option (Int32) :=
  l_Reader_manOf_2 fu x0 fu (1 : Int32)
def f_Board_put (x1 : Int32) (x2 : Int32) (b : BdT) : Option (BdT) :=
  if am_in x1 64 = true then
    if am_in (x2 >>> ((3 : Int32) &&& 31)) 2 = true then
      if am_in (x2 >>> ((3 : Int32) &&& 31)) 2 = true then
        some ((upd (bd_men b) (x1).toNatClampNeg x2), (vp_updL (bd_held b) ((x2 >>> ((3 : Int32) &&& 31))).toNatClampNeg (((bd_held b) ((x2 >>> ((3 : Int32) &&& 31))).toNatClampNeg) ||| (am_shl (1 : Int64) x1))), (bd_kings b), (bd_side b), (bd_rights b), (bd_passed b), (bd_depth b), (bd_made b), (bd_taken b), (bd_takenAt b), (bd_rightsBefore b), (bd_passedBefore b))
      else none
    else none
  else none
def j_Reader_readRank_125 (fu : Nat) (T : TxT) (D : BdT) (r : RdT) (x2 : Int32) : Option (Int32 × BdT × RdT) :=
  if ¬ x2 = (8 : Int32) then
    some ((0 : Int32), D, r)
  else
    some ((1 : Int32), D, r)
def j_Reader_readRank_106 (fu : Nat) (gg : Int32 → Int32 → Int32 → BdT → RdT → Option (((Int32 × BdT × RdT)) ⊕ (Int32 × BdT × RdT))) (T : TxT) (D : BdT) (r : RdT) (x1 : Int32) (x2 : Int32) (x4 : Int32) (x6 : Int32) : Option (((Int32 × BdT × RdT)) ⊕ (Int32 × BdT × RdT)) :=
  gg x2 x6 (x4 + (1 : Int32)) D (r + (1 : Int32))
def j_Reader_readRank_74 (fu : Nat) (gg : Int32 → Int32 → Int32 → BdT → RdT → Option (((Int32 × BdT × RdT)) ⊕ (Int32 × BdT × RdT))) (T : TxT) (D : BdT) (r : RdT) (x1 : Int32) (x2 : Int32) (x4 : Int32) (x5 : Int32) (x6 : Int32) : Option (((Int32 × BdT × RdT)) ⊕ (Int32 × BdT × RdT)) :=
  (f_Reader_manOf fu x5).bind fun r2 =>
  if ¬ r2 = (0 : Int32) then
    (f_Board_put (x2 + ((8 : Int32) * x1)) r2 D).bind fun bg3 =>
    j_Reader_readRank_106 fu gg T bg3 r x1 (x2 + (1 : Int32)) x4 x6
  else
    some (.inr ((0 : Int32), D, r))
def j_Reader_readRank_52 (fu : Nat) (gg : Int32 → Int32 → Int32 → BdT → RdT → Option (((Int32 × BdT × RdT)) ⊕ (Int32 × BdT × RdT))) (T : TxT) (D : BdT) (r : RdT) (x1 : Int32) (x2 : Int32) (x3 : Int32) (x4 : Int32) (x5 : Int32) (s0 : Int32) : Option (((Int32 × BdT × RdT)) ⊕ (Int32 × BdT × RdT)) :=
  if s0 = (0 : Int32) then
    j_Reader_readRank_74 fu gg T D r x1 x2 x4 x5 s0
  else
    if ¬ x3 = (0 : Int32) then
      j_Reader_readRank_74 fu gg T D r x1 x2 x4 x5 s0
    else
      j_Reader_readRank_106 fu gg T D r x1 (x2 + (x5 - (48 : Int32))) x4 s0
def j_Reader_readRank_51 (fu : Nat) (gg : Int32 → Int32 → Int32 → BdT → RdT → Option (((Int32 × BdT × RdT)) ⊕ (Int32 × BdT × RdT))) (T : TxT) (D : BdT) (r : RdT) (x1 : Int32) (x2 : Int32) (x3 : Int32) (x4 : Int32) (x5 : Int32) : Option (((Int32 × BdT × RdT)) ⊕ (Int32 × BdT × RdT)) :=
  j_Reader_readRank_52 fu gg T D r x1 x2 x3 x4 x5 (0 : Int32)
def b_Reader_readRank_7 (fu : Nat) (T : TxT) (x1 : Int32) (gg : Int32 → Int32 → Int32 → BdT → RdT → Option (((Int32 × BdT × RdT)) ⊕ (Int32 × BdT × RdT))) (x2 : Int32) (x3 : Int32) (x4 : Int32) (D : BdT) (r : RdT) : Option (((Int32 × BdT × RdT)) ⊕ (Int32 × BdT × RdT)) :=
  if (8 : Int32) ≤ x4 then
    some (.inl (x2, D, r))
  else
    if (8 : Int32) ≤ x2 then
      some (.inl (x2, D, r))
    else
      (f_Text_at r T).bind fun r1 =>
      if r1 < (49 : Int32) then
        j_Reader_readRank_51 fu gg T D r x1 x2 x3 x4 r1
      else
        if (56 : Int32) < r1 then
          j_Reader_readRank_51 fu gg T D r x1 x2 x3 x4 r1
        else
          j_Reader_readRank_52 fu gg T D r x1 x2 x3 x4 r1 (1 : Int32)
def l_Reader_readRank_7 (fu : Nat) (T : TxT) (x1 : Int32) : Nat → Int32 → Int32 → Int32 → BdT → RdT → Option (((Int32 × BdT × RdT)) ⊕ (Int32 × BdT × RdT))
  | 0 => fun _ _ _ _ _ => none
  | n + 1 => b_Reader_readRank_7 fu T x1 (l_Reader_readRank_7 fu T x1 n)
def f_Reader_readRank (fu : Nat) (x1 : Int32) (T : TxT) (D : BdT) (r : RdT) : Option (Int32 × BdT × RdT) :=
  (l_Reader_readRank_7 fu T x1 fu (0 : Int32) (0 : Int32) (0 : Int32) D r).bind fun z => match z with
  | .inl (x2_1, dz_1, rz_1) =>
    j_Reader_readRank_125 fu T dz_1 rz_1 x2_1
  | .inr z => some z
def f_Reader_take (x1 : Int32) (T : TxT) (r : RdT) : Option (Int32 × RdT) :=
  (f_Text_at r T).bind fun r1 =>
  if r1 = x1 then
    some ((1 : Int32), (r + (1 : Int32)))
  else
    some ((0 : Int32), r)
def j_Reader_readMen_30 (fu : Nat) (gg : Int32 → BdT → RdT → Option (Int32 × BdT × RdT)) (T : TxT) (D : BdT) (r : RdT) (x1 : Int32) : Option (Int32 × BdT × RdT) :=
  gg (x1 + (-1 : Int32)) D r
def b_Reader_readMen_3 (fu : Nat) (T : TxT) (gg : Int32 → BdT → RdT → Option (Int32 × BdT × RdT)) (x1 : Int32) (D : BdT) (r : RdT) : Option (Int32 × BdT × RdT) :=
  if x1 < (0 : Int32) then
    some ((1 : Int32), D, r)
  else
    (f_Reader_readRank fu x1 T D r).bind fun (r1, dg2, rg3) =>
    if r1 = (0 : Int32) then
      some ((0 : Int32), dg2, rg3)
    else
      if x1 ≤ (0 : Int32) then
        j_Reader_readMen_30 fu gg T dg2 rg3 x1
      else
        (f_Reader_take (47 : Int32) T rg3).bind fun (r4, rg5) =>
        if ¬ r4 = (0 : Int32) then
          j_Reader_readMen_30 fu gg T dg2 rg5 x1
        else
          some ((0 : Int32), dg2, rg5)
def l_Reader_readMen_3 (fu : Nat) (T : TxT) : Nat → Int32 → BdT → RdT → Option (Int32 × BdT × RdT)
  | 0 => fun _ _ _ => none
  | n + 1 => b_Reader_readMen_3 fu T (l_Reader_readMen_3 fu T n)
def f_Reader_readMen (fu : Nat) (T : TxT) (D : BdT) (r : RdT) : Option (Int32 × BdT × RdT) :=
  l_Reader_readMen_3 fu T fu (7 : Int32) D r
def j_Reader_readSide_25 (T : TxT) (D : BdT) (r : RdT) (s1 : Int32) : Option (Int32 × BdT × RdT) :=
  (f_Reader_take (98 : Int32) T r).bind fun (r2, rg3) =>
  if ¬ r2 = (0 : Int32) then
    some ((1 : Int32), ((bd_men D), (bd_held D), (bd_kings D), s1, (bd_rights D), (bd_passed D), (bd_depth D), (bd_made D), (bd_taken D), (bd_takenAt D), (bd_rightsBefore D), (bd_passedBefore D)), rg3)
  else
    (f_Reader_take (119 : Int32) T rg3).bind fun (r4, rg5) =>
    if r4 = (0 : Int32) then
      some ((0 : Int32), ((bd_men D), (bd_held D), (bd_kings D), s1, (bd_rights D), (bd_passed D), (bd_depth D), (bd_made D), (bd_taken D), (bd_takenAt D), (bd_rightsBefore D), (bd_passedBefore D)), rg5)
    else
      some ((1 : Int32), ((bd_men D), (bd_held D), (bd_kings D), s1, (bd_rights D), (bd_passed D), (bd_depth D), (bd_made D), (bd_taken D), (bd_takenAt D), (bd_rightsBefore D), (bd_passedBefore D)), rg5)
def f_Reader_readSide (T : TxT) (D : BdT) (r : RdT) : Option (Int32 × BdT × RdT) :=
  (f_Text_at r T).bind fun r1 =>
  if ¬ r1 = (98 : Int32) then
    j_Reader_readSide_25 T D r (0 : Int32)
  else
    j_Reader_readSide_25 T D r (1 : Int32)
def j_Reader_readRights_56 (fu : Nat) (T : TxT) (D : BdT) (r : RdT) : Option (Int32 × BdT × RdT) :=
  if (bd_rights D) = (0 : Int32) then
    some ((0 : Int32), D, r)
  else
    some ((1 : Int32), D, r)
def j_Reader_readRights_50 (fu : Nat) (gg : Int32 → BdT → RdT → Option ((BdT × RdT))) (T : TxT) (D : BdT) (r : RdT) (x1 : Int32) : Option ((BdT × RdT)) :=
  gg (x1 + (1 : Int32)) D r
def b_Reader_readRights_13 (fu : Nat) (T : TxT) (gg : Int32 → BdT → RdT → Option ((BdT × RdT))) (x1 : Int32) (D : BdT) (r : RdT) : Option ((BdT × RdT)) :=
  if (4 : Int32) ≤ x1 then
    some (D, r)
  else
    if am_in x1 4 = true then
      (f_Reader_take (tb_RIGHTS (x1).toNatClampNeg) T r).bind fun (r3, rg4) =>
      if r3 = (0 : Int32) then
        j_Reader_readRights_50 fu gg T D rg4 x1
      else
        j_Reader_readRights_50 fu gg T ((bd_men D), (bd_held D), (bd_kings D), (bd_side D), ((bd_rights D) ||| ((1 : Int32) <<< (x1 &&& 31))), (bd_passed D), (bd_depth D), (bd_made D), (bd_taken D), (bd_takenAt D), (bd_rightsBefore D), (bd_passedBefore D)) rg4 x1
    else none
def l_Reader_readRights_13 (fu : Nat) (T : TxT) : Nat → Int32 → BdT → RdT → Option ((BdT × RdT))
  | 0 => fun _ _ _ => none
  | n + 1 => b_Reader_readRights_13 fu T (l_Reader_readRights_13 fu T n)
def f_Reader_readRights (fu : Nat) (T : TxT) (D : BdT) (r : RdT) : Option (Int32 × BdT × RdT) :=
  (f_Reader_take (45 : Int32) T r).bind fun (r1, rg2) =>
  if r1 = (0 : Int32) then
    (l_Reader_readRights_13 fu T fu (0 : Int32) D rg2).bind fun (dz_1, rz_1) =>
    j_Reader_readRights_56 fu T dz_1 rz_1
  else
    some ((1 : Int32), D, rg2)
def f_Reader_readPassed (T : TxT) (D : BdT) (r : RdT) : Option (Int32 × BdT × RdT) :=
  (f_Reader_take (45 : Int32) T r).bind fun (r1, rg2) =>
  if r1 = (0 : Int32) then
    (f_Text_at rg2 T).bind fun r3 =>
    (f_Text_at (rg2 + (1 : Int32)) T).bind fun r4 =>
    if (r3 - (97 : Int32)) < (0 : Int32) then
      some ((0 : Int32), D, rg2)
    else
      if (7 : Int32) < (r3 - (97 : Int32)) then
        some ((0 : Int32), D, rg2)
      else
        if (r4 - (49 : Int32)) < (0 : Int32) then
          some ((0 : Int32), D, rg2)
        else
          if (r4 - (49 : Int32)) ≤ (7 : Int32) then
            some ((1 : Int32), ((bd_men D), (bd_held D), (bd_kings D), (bd_side D), (bd_rights D), ((r3 - (97 : Int32)) + ((8 : Int32) * (r4 - (49 : Int32)))), (bd_depth D), (bd_made D), (bd_taken D), (bd_takenAt D), (bd_rightsBefore D), (bd_passedBefore D)), (rg2 + (2 : Int32)))
          else
            some ((0 : Int32), D, rg2)
  else
    some ((1 : Int32), D, rg2)
def j_Reader_readNumber_87 (fu : Nat) (gg : Int32 → RdT → Option (Int32 × RdT)) (T : TxT) (r : RdT) (x2 : Int32) (x3 : Int32) : Option (Int32 × RdT) :=
  gg (x3 + (1 : Int32)) r
def b_Reader_readNumber_40 (fu : Nat) (T : TxT) (x2 : Int32) (gg : Int32 → RdT → Option (Int32 × RdT)) (x3 : Int32) (r : RdT) : Option (Int32 × RdT) :=
  if (2 : Int32) ≤ x3 then
    some ((1 : Int32), r)
  else
    if x2 ≤ (0 : Int32) then
      some ((1 : Int32), r)
    else
      (f_Text_at r T).bind fun r2 =>
      if (r2 - (48 : Int32)) < (0 : Int32) then
        j_Reader_readNumber_87 fu gg T r x2 x3
      else
        if (9 : Int32) < (r2 - (48 : Int32)) then
          j_Reader_readNumber_87 fu gg T r x2 x3
        else
          j_Reader_readNumber_87 fu gg T (r + (1 : Int32)) x2 x3
def l_Reader_readNumber_40 (fu : Nat) (T : TxT) (x2 : Int32) : Nat → Int32 → RdT → Option (Int32 × RdT)
  | 0 => fun _ _ => none
  | n + 1 => b_Reader_readNumber_40 fu T x2 (l_Reader_readNumber_40 fu T x2 n)
def f_Reader_readNumber (fu : Nat) (x1 : Int32) (T : TxT) (r : RdT) : Option (Int32 × RdT) :=
  (f_Text_at r T).bind fun r1 =>
  if (r1 - (48 : Int32)) < x1 then
    some ((0 : Int32), r)
  else
    if (r1 - (48 : Int32)) ≤ (9 : Int32) then
      l_Reader_readNumber_40 fu T (r1 - (48 : Int32)) fu (0 : Int32) (r + (1 : Int32))
    else
      some ((0 : Int32), r)
def f_Reader_isWell (fu : Nat) (T : TxT) (D : BdT) (r : RdT) : Option (Int32 × BdT × RdT) :=
  (f_Reader_readMen fu T D r).bind fun (r1, dg2, rg3) =>
  if r1 = (0 : Int32) then
    some ((0 : Int32), dg2, rg3)
  else
    (f_Reader_take (32 : Int32) T rg3).bind fun (r4, rg5) =>
    if r4 = (0 : Int32) then
      some ((0 : Int32), dg2, rg5)
    else
      (f_Reader_readSide T dg2 rg5).bind fun (r6, dg7, rg8) =>
      if r6 = (0 : Int32) then
        some ((0 : Int32), dg7, rg8)
      else
        (f_Reader_take (32 : Int32) T rg8).bind fun (r9, rg10) =>
        if r9 = (0 : Int32) then
          some ((0 : Int32), dg7, rg10)
        else
          (f_Reader_readRights fu T dg7 rg10).bind fun (r11, dg12, rg13) =>
          if r11 = (0 : Int32) then
            some ((0 : Int32), dg12, rg13)
          else
            (f_Reader_take (32 : Int32) T rg13).bind fun (r14, rg15) =>
            if r14 = (0 : Int32) then
              some ((0 : Int32), dg12, rg15)
            else
              (f_Reader_readPassed T dg12 rg15).bind fun (r16, dg17, rg18) =>
              if r16 = (0 : Int32) then
                some ((0 : Int32), dg17, rg18)
              else
                (f_Reader_take (32 : Int32) T rg18).bind fun (r19, rg20) =>
                if r19 = (0 : Int32) then
                  some ((0 : Int32), dg17, rg20)
                else
                  (f_Reader_readNumber fu (0 : Int32) T rg20).bind fun (r21, rg22) =>
                  if r21 = (0 : Int32) then
                    some ((0 : Int32), dg17, rg22)
                  else
                    (f_Reader_take (32 : Int32) T rg22).bind fun (r23, rg24) =>
                    if r23 = (0 : Int32) then
                      some ((0 : Int32), dg17, rg24)
                    else
                      (f_Reader_readNumber fu (1 : Int32) T rg24).bind fun (r25, rg26) =>
                      if r25 = (0 : Int32) then
                        some ((0 : Int32), dg17, rg26)
                      else
                        (f_Reader_take (0 : Int32) T rg26).bind fun (r27, rg28) =>
                        if r27 = (0 : Int32) then
                          some ((0 : Int32), dg17, rg28)
                        else
                          some ((1 : Int32), dg17, rg28)
def j_Reader_hasTwoKings_75 (fu : Nat) (D : BdT) (x1 : Int32) (x2 : Int32) : Option (Int32 × BdT) :=
  if ¬ x1 = (1 : Int32) then
    some ((0 : Int32), D)
  else
    if ¬ x2 = (1 : Int32) then
      some ((0 : Int32), D)
    else
      some ((1 : Int32), D)
def j_Reader_hasTwoKings_69 (fu : Nat) (gg : Int32 → Int32 → Int32 → BdT → Option ((Int32 × Int32 × BdT))) (D : BdT) (x1 : Int32) (x2 : Int32) (x3 : Int32) : Option ((Int32 × Int32 × BdT)) :=
  gg x1 x2 (x3 + (1 : Int32)) D
def b_Reader_hasTwoKings_6 (fu : Nat) (gg : Int32 → Int32 → Int32 → BdT → Option ((Int32 × Int32 × BdT))) (x1 : Int32) (x2 : Int32) (x3 : Int32) (D : BdT) : Option ((Int32 × Int32 × BdT)) :=
  if (64 : Int32) ≤ x3 then
    some (x1, x2, D)
  else
    if am_in x3 64 = true then
      if ¬ ((bd_men D) (x3).toNatClampNeg) = (6 : Int32) then
        if am_in x3 64 = true then
          if ¬ ((bd_men D) (x3).toNatClampNeg) = (14 : Int32) then
            j_Reader_hasTwoKings_69 fu gg D x1 x2 x3
          else
            if am_in (1 : Int32) 2 = true then
              j_Reader_hasTwoKings_69 fu gg ((bd_men D), (bd_held D), (upd (bd_kings D) ((1 : Int32)).toNatClampNeg x3), (bd_side D), (bd_rights D), (bd_passed D), (bd_depth D), (bd_made D), (bd_taken D), (bd_takenAt D), (bd_rightsBefore D), (bd_passedBefore D)) x1 (x2 + (1 : Int32)) x3
            else none
        else none
      else
        if am_in (0 : Int32) 2 = true then
          j_Reader_hasTwoKings_69 fu gg ((bd_men D), (bd_held D), (upd (bd_kings D) ((0 : Int32)).toNatClampNeg x3), (bd_side D), (bd_rights D), (bd_passed D), (bd_depth D), (bd_made D), (bd_taken D), (bd_takenAt D), (bd_rightsBefore D), (bd_passedBefore D)) (x1 + (1 : Int32)) x2 x3
        else none
    else none
def l_Reader_hasTwoKings_6 (fu : Nat) : Nat → Int32 → Int32 → Int32 → BdT → Option ((Int32 × Int32 × BdT))
  | 0 => fun _ _ _ _ => none
  | n + 1 => b_Reader_hasTwoKings_6 fu (l_Reader_hasTwoKings_6 fu n)
def f_Reader_hasTwoKings (fu : Nat) (D : BdT) : Option (Int32 × BdT) :=
  (l_Reader_hasTwoKings_6 fu fu (0 : Int32) (0 : Int32) (0 : Int32) D).bind fun (x1_1, x2_1, dz_1) =>
  j_Reader_hasTwoKings_75 fu dz_1 x1_1 x2_1
def b_Reader_hasPawnAtEnd_2 (fu : Nat) (D : BdT) (gg : Int32 → Option (Int32)) (x1 : Int32) : Option (Int32) :=
  if (8 : Int32) ≤ x1 then
    some (0 : Int32)
  else
    if am_in x1 64 = true then
      if (((bd_men D) (x1).toNatClampNeg) &&& (7 : Int32)) = (1 : Int32) then
        some (1 : Int32)
      else
        if am_in (x1 + (56 : Int32)) 64 = true then
          if ¬ (((bd_men D) ((x1 + (56 : Int32))).toNatClampNeg) &&& (7 : Int32)) = (1 : Int32) then
            gg (x1 + (1 : Int32))
          else
            some (1 : Int32)
        else none
    else none
def l_Reader_hasPawnAtEnd_2 (fu : Nat) (D : BdT) : Nat → Int32 → Option (Int32)
  | 0 => fun _ => none
  | n + 1 => b_Reader_hasPawnAtEnd_2 fu D (l_Reader_hasPawnAtEnd_2 fu D n)
def f_Reader_hasPawnAtEnd (fu : Nat) (D : BdT) : Option (Int32) :=
  l_Reader_hasPawnAtEnd_2 fu D fu (0 : Int32)
def j_Board_attacked_45 (fu : Nat) (gg : Int32 → Option (((Unit)) ⊕ (Int32))) (b : BdT) (x1 : Int32) (x2 : Int32) (x3 : Int32) : Option (((Unit)) ⊕ (Int32)) :=
  gg (x3 + (1 : Int32))
def b_Board_attacked_75 (fu : Nat) (b : BdT) (x1 : Int32) (x2 : Int32) (x3 : Int32) (gg : Int32 → Int32 → Option ((Int32 × Int32) ⊕ (Unit))) (x4 : Int32) (x5 : Int32) : Option ((Int32 × Int32) ⊕ (Unit)) :=
  if (7 : Int32) ≤ x5 then
    some (.inr ())
  else
    if x4 < (0 : Int32) then
      some (.inr ())
    else
      if am_in x4 64 = true then
        if ((bd_men b) (x4).toNatClampNeg) = (0 : Int32) then
          if am_in (((64 : Int32) * x3) + x4) 1024 = true then
            gg (tb_next ((((64 : Int32) * x3) + x4)).toNatClampNeg) (x5 + (1 : Int32))
          else none
        else
          some (.inl (x5, ((bd_men b) (x4).toNatClampNeg)))
      else none
def l_Board_attacked_75 (fu : Nat) (b : BdT) (x1 : Int32) (x2 : Int32) (x3 : Int32) : Nat → Int32 → Int32 → Option ((Int32 × Int32) ⊕ (Unit))
  | 0 => fun _ _ => none
  | n + 1 => b_Board_attacked_75 fu b x1 x2 x3 (l_Board_attacked_75 fu b x1 x2 x3 n)
def j_Board_attacked_162 (fu : Nat) (gg : Int32 → Option (Int32)) (b : BdT) (x1 : Int32) (x2 : Int32) (x3 : Int32) : Option (Int32) :=
  gg (x3 + (1 : Int32))
def j_Board_attacked_121 (fu : Nat) (gg : Int32 → Option (Int32)) (b : BdT) (x1 : Int32) (x2 : Int32) (x3 : Int32) (x6 : Int32) (s0 : Int32) : Option (Int32) :=
  if ¬ (x6 >>> ((3 : Int32) &&& 31)) = x2 then
    j_Board_attacked_162 fu gg b x1 x2 x3
  else
    if ((s0 >>> (x3 &&& 31)) &&& (1 : Int32)) = (0 : Int32) then
      j_Board_attacked_162 fu gg b x1 x2 x3
    else
      some (1 : Int32)
def b_Board_attacked_3 (fu : Nat) (b : BdT) (x1 : Int32) (x2 : Int32) (gg : Int32 → Option (((Unit)) ⊕ (Int32))) (x3 : Int32) : Option (((Unit)) ⊕ (Int32)) :=
  if (16 : Int32) ≤ x3 then
    some (.inl ())
  else
    if am_in (((64 : Int32) * x3) + x1) 1024 = true then
      if (tb_next ((((64 : Int32) * x3) + x1)).toNatClampNeg) < (0 : Int32) then
        j_Board_attacked_45 fu gg b x1 x2 x3
      else
        if am_in (tb_next ((((64 : Int32) * x3) + x1)).toNatClampNeg) 64 = true then
          if ¬ ((bd_men b) ((tb_next ((((64 : Int32) * x3) + x1)).toNatClampNeg)).toNatClampNeg) = ((2 : Int32) + ((8 : Int32) * x2)) then
            j_Board_attacked_45 fu gg b x1 x2 x3
          else
            some (.inr (1 : Int32))
        else none
    else none
def l_Board_attacked_3 (fu : Nat) (b : BdT) (x1 : Int32) (x2 : Int32) : Nat → Int32 → Option (((Unit)) ⊕ (Int32))
  | 0 => fun _ => none
  | n + 1 => b_Board_attacked_3 fu b x1 x2 (l_Board_attacked_3 fu b x1 x2 n)
def j_Board_attacked_101 (fu : Nat) (gg : Int32 → Option (Int32)) (b : BdT) (x1 : Int32) (x2 : Int32) (x3 : Int32) (x5 : Int32) (x6 : Int32) : Option (Int32) :=
  if ¬ x5 = (0 : Int32) then
    if am_in x6 16 = true then
      j_Board_attacked_121 fu gg b x1 x2 x3 x6 (tb_FAR (x6).toNatClampNeg)
    else none
  else
    if am_in x6 16 = true then
      j_Board_attacked_121 fu gg b x1 x2 x3 x6 (tb_NEAR (x6).toNatClampNeg)
    else none
def b_Board_attacked_53 (fu : Nat) (b : BdT) (x1 : Int32) (x2 : Int32) (gg : Int32 → Option (Int32)) (x3 : Int32) : Option (Int32) :=
  if (8 : Int32) ≤ x3 then
    some (0 : Int32)
  else
    if am_in (((64 : Int32) * x3) + x1) 1024 = true then
      (l_Board_attacked_75 fu b x1 x2 x3 fu (tb_next ((((64 : Int32) * x3) + x1)).toNatClampNeg) (0 : Int32)).bind fun z => match z with
      | .inl (x5_1, x6_1) =>
        j_Board_attacked_101 fu gg b x1 x2 x3 x5_1 x6_1
      | .inr () =>
        j_Board_attacked_162 fu gg b x1 x2 x3
    else none
def l_Board_attacked_53 (fu : Nat) (b : BdT) (x1 : Int32) (x2 : Int32) : Nat → Int32 → Option (Int32)
  | 0 => fun _ => none
  | n + 1 => b_Board_attacked_53 fu b x1 x2 (l_Board_attacked_53 fu b x1 x2 n)
def j_Board_attacked_51 (fu : Nat) (b : BdT) (x1 : Int32) (x2 : Int32) : Option (Int32) :=
  l_Board_attacked_53 fu b x1 x2 fu (0 : Int32)
def f_Board_attacked (fu : Nat) (x1 : Int32) (x2 : Int32) (b : BdT) : Option (Int32) :=
  (l_Board_attacked_3 fu b x1 x2 fu (8 : Int32)).bind fun z => match z with
  | .inl () =>
    j_Board_attacked_51 fu b x1 x2
  | .inr z => some z
def f_Board_isLegal (fu : Nat) (b : BdT) : Option (Int32) :=
  if am_in ((1 : Int32) - (bd_side b)) 2 = true then
    (f_Board_attacked fu ((bd_kings b) (((1 : Int32) - (bd_side b))).toNatClampNeg) (bd_side b) b).bind fun r1 =>
    if ¬ r1 = (0 : Int32) then
      some (0 : Int32)
    else
      some (1 : Int32)
  else none
def j_Reader_hasGoodRights_114 (D : BdT) (x4 : Int32) : Option (Int32) :=
  if ¬ ((bd_rights D) &&& (x4 ^^^ (-1 : Int32))) = (0 : Int32) then
    some (0 : Int32)
  else
    some (1 : Int32)
def j_Reader_hasGoodRights_94 (D : BdT) (x3 : Int32) (x4 : Int32) : Option (Int32) :=
  if x3 = (0 : Int32) then
    j_Reader_hasGoodRights_114 D x4
  else
    if am_in (56 : Int32) 64 = true then
      if ¬ ((bd_men D) ((56 : Int32)).toNatClampNeg) = (12 : Int32) then
        j_Reader_hasGoodRights_114 D x4
      else
        j_Reader_hasGoodRights_114 D (x4 ||| (8 : Int32))
    else none
def j_Reader_hasGoodRights_75 (D : BdT) (x3 : Int32) (x4 : Int32) : Option (Int32) :=
  if x3 = (0 : Int32) then
    j_Reader_hasGoodRights_94 D x3 x4
  else
    if am_in (63 : Int32) 64 = true then
      if ¬ ((bd_men D) ((63 : Int32)).toNatClampNeg) = (12 : Int32) then
        j_Reader_hasGoodRights_94 D x3 x4
      else
        j_Reader_hasGoodRights_94 D x3 (x4 ||| (4 : Int32))
    else none
def j_Reader_hasGoodRights_58 (D : BdT) (x2 : Int32) (x3 : Int32) (x4 : Int32) : Option (Int32) :=
  if x2 = (0 : Int32) then
    j_Reader_hasGoodRights_75 D x3 x4
  else
    if am_in (0 : Int32) 64 = true then
      if ¬ ((bd_men D) ((0 : Int32)).toNatClampNeg) = (4 : Int32) then
        j_Reader_hasGoodRights_75 D x3 x4
      else
        j_Reader_hasGoodRights_75 D x3 (x4 ||| (2 : Int32))
    else none
def j_Reader_hasGoodRights_36 (D : BdT) (x2 : Int32) (s0 : Int32) : Option (Int32) :=
  if x2 = (0 : Int32) then
    j_Reader_hasGoodRights_58 D x2 s0 (0 : Int32)
  else
    if am_in (7 : Int32) 64 = true then
      if ¬ ((bd_men D) ((7 : Int32)).toNatClampNeg) = (4 : Int32) then
        j_Reader_hasGoodRights_58 D x2 s0 (0 : Int32)
      else
        j_Reader_hasGoodRights_58 D x2 s0 ((0 : Int32) ||| (1 : Int32))
    else none
def j_Reader_hasGoodRights_21 (D : BdT) (s0 : Int32) : Option (Int32) :=
  if am_in (60 : Int32) 64 = true then
    if ¬ ((bd_men D) ((60 : Int32)).toNatClampNeg) = (14 : Int32) then
      j_Reader_hasGoodRights_36 D s0 (0 : Int32)
    else
      j_Reader_hasGoodRights_36 D s0 (1 : Int32)
  else none
def f_Reader_hasGoodRights (D : BdT) : Option (Int32) :=
  if am_in (4 : Int32) 64 = true then
    if ¬ ((bd_men D) ((4 : Int32)).toNatClampNeg) = (6 : Int32) then
      j_Reader_hasGoodRights_21 D (0 : Int32)
    else
      j_Reader_hasGoodRights_21 D (1 : Int32)
  else none
def j_Board_pawnAttacks_65 (b : BdT) (x3 : Int32) (x6 : Int32) : Option (Int32) :=
  if x6 < (0 : Int32) then
    some (0 : Int32)
  else
    if am_in x6 64 = true then
      if ¬ ((bd_men b) (x6).toNatClampNeg) = x3 then
        some (0 : Int32)
      else
        some (1 : Int32)
    else none
def j_Board_pawnAttacks_17 (b : BdT) (x1 : Int32) (x3 : Int32) (s0 : Int32) : Option (Int32) :=
  if am_in (((64 : Int32) * s0) + x1) 1024 = true then
    if am_in (((64 : Int32) * (s0 + (1 : Int32))) + x1) 1024 = true then
      if (tb_next ((((64 : Int32) * s0) + x1)).toNatClampNeg) < (0 : Int32) then
        j_Board_pawnAttacks_65 b x3 (tb_next ((((64 : Int32) * (s0 + (1 : Int32))) + x1)).toNatClampNeg)
      else
        if am_in (tb_next ((((64 : Int32) * s0) + x1)).toNatClampNeg) 64 = true then
          if ((bd_men b) ((tb_next ((((64 : Int32) * s0) + x1)).toNatClampNeg)).toNatClampNeg) = x3 then
            some (1 : Int32)
          else
            j_Board_pawnAttacks_65 b x3 (tb_next ((((64 : Int32) * (s0 + (1 : Int32))) + x1)).toNatClampNeg)
        else none
    else none
  else none
def f_Board_pawnAttacks (x1 : Int32) (x2 : Int32) (b : BdT) : Option (Int32) :=
  if ¬ x2 = (0 : Int32) then
    j_Board_pawnAttacks_17 b x1 ((1 : Int32) + ((8 : Int32) * x2)) (4 : Int32)
  else
    j_Board_pawnAttacks_17 b x1 ((1 : Int32) + ((8 : Int32) * x2)) (6 : Int32)
def j_Reader_hasGoodPassed_62 (D : BdT) (x1 : Int32) (x2 : Int32) (x3 : Int32) (s0 : Int32) : Option (Int32) :=
  if am_in x1 64 = true then
    if ¬ ((bd_men D) (x1).toNatClampNeg) = (0 : Int32) then
      some (0 : Int32)
    else
      if am_in (x1 - x3) 64 = true then
        if ¬ ((bd_men D) ((x1 - x3)).toNatClampNeg) = s0 then
          some (0 : Int32)
        else
          if am_in (x1 + x3) 64 = true then
            if ¬ ((bd_men D) ((x1 + x3)).toNatClampNeg) = (0 : Int32) then
              some (0 : Int32)
            else
              (f_Board_pawnAttacks x1 x2 D).bind fun r1 =>
              if r1 = (0 : Int32) then
                some (0 : Int32)
              else
                some (1 : Int32)
          else none
      else none
  else none
def j_Reader_hasGoodPassed_51 (D : BdT) (x1 : Int32) (x2 : Int32) (s0 : Int32) : Option (Int32) :=
  if ¬ x2 = (0 : Int32) then
    j_Reader_hasGoodPassed_62 D x1 x2 s0 (1 : Int32)
  else
    j_Reader_hasGoodPassed_62 D x1 x2 s0 (9 : Int32)
def j_Reader_hasGoodPassed_35 (D : BdT) (x1 : Int32) (x2 : Int32) (s0 : Int32) (s1 : Int32) : Option (Int32) :=
  if s0 = s1 then
    if ¬ x2 = (0 : Int32) then
      j_Reader_hasGoodPassed_51 D x1 x2 (-8 : Int32)
    else
      j_Reader_hasGoodPassed_51 D x1 x2 (8 : Int32)
  else
    some (0 : Int32)
def f_Reader_hasGoodPassed (D : BdT) : Option (Int32) :=
  if ¬ (bd_passed D) = (-1 : Int32) then
    if ¬ (bd_side D) = (0 : Int32) then
      j_Reader_hasGoodPassed_35 D (bd_passed D) (bd_side D) ((bd_passed D) >>> ((3 : Int32) &&& 31)) (2 : Int32)
    else
      j_Reader_hasGoodPassed_35 D (bd_passed D) (bd_side D) ((bd_passed D) >>> ((3 : Int32) &&& 31)) (5 : Int32)
  else
    some (1 : Int32)
def f_Reader_read (fu : Nat) (T : TxT) (D : BdT) (r : RdT) : Option (Int32 × BdT × RdT) :=
  (f_Board_clear fu D).bind fun bg1 =>
  (f_Reader_isWell fu T bg1 (0 : Int32)).bind fun (r2, dg3, rg4) =>
  if ¬ r2 = (0 : Int32) then
    (f_Reader_hasTwoKings fu dg3).bind fun (r5, dg6) =>
    if ¬ r5 = (0 : Int32) then
      (f_Reader_hasPawnAtEnd fu dg6).bind fun r7 =>
      if r7 = (0 : Int32) then
        (f_Board_isLegal fu dg6).bind fun r8 =>
        if ¬ r8 = (0 : Int32) then
          (f_Reader_hasGoodRights dg6).bind fun r9 =>
          if ¬ r9 = (0 : Int32) then
            (f_Reader_hasGoodPassed dg6).bind fun r10 =>
            if r10 = (0 : Int32) then
              some ((6 : Int32), dg6, rg4)
            else
              some ((0 : Int32), dg6, rg4)
          else
            some ((5 : Int32), dg6, rg4)
        else
          some ((4 : Int32), dg6, rg4)
      else
        some ((3 : Int32), dg6, rg4)
    else
      some ((2 : Int32), dg6, rg4)
  else
    some ((1 : Int32), dg3, rg4)
def b_Board_copy_2 (fu : Nat) (o : BdT) (gg : Int32 → BdT → Option ((BdT))) (x2 : Int32) (b : BdT) : Option ((BdT)) :=
  if (64 : Int32) ≤ x2 then
    some b
  else
    if am_in x2 64 = true then
      if am_in x2 64 = true then
        gg (x2 + (1 : Int32)) ((upd (bd_men b) (x2).toNatClampNeg ((bd_men o) (x2).toNatClampNeg)), (bd_held b), (bd_kings b), (bd_side b), (bd_rights b), (bd_passed b), (bd_depth b), (bd_made b), (bd_taken b), (bd_takenAt b), (bd_rightsBefore b), (bd_passedBefore b))
      else none
    else none
def l_Board_copy_2 (fu : Nat) (o : BdT) : Nat → Int32 → BdT → Option ((BdT))
  | 0 => fun _ _ => none
  | n + 1 => b_Board_copy_2 fu o (l_Board_copy_2 fu o n)
def b_Board_copy_28 (fu : Nat) (o : BdT) (gg : Int32 → BdT → Option ((BdT))) (x2 : Int32) (b : BdT) : Option ((BdT)) :=
  if (2 : Int32) ≤ x2 then
    some b
  else
    if am_in x2 2 = true then
      if am_in x2 2 = true then
        if am_in x2 2 = true then
          if am_in x2 2 = true then
            gg (x2 + (1 : Int32)) ((bd_men b), (vp_updL (bd_held b) (x2).toNatClampNeg ((bd_held o) (x2).toNatClampNeg)), (upd (bd_kings b) (x2).toNatClampNeg ((bd_kings o) (x2).toNatClampNeg)), (bd_side b), (bd_rights b), (bd_passed b), (bd_depth b), (bd_made b), (bd_taken b), (bd_takenAt b), (bd_rightsBefore b), (bd_passedBefore b))
          else none
        else none
      else none
    else none
def l_Board_copy_28 (fu : Nat) (o : BdT) : Nat → Int32 → BdT → Option ((BdT))
  | 0 => fun _ _ => none
  | n + 1 => b_Board_copy_28 fu o (l_Board_copy_28 fu o n)
def j_Board_copy_63 (fu : Nat) (b : BdT) (o : BdT) : Option (BdT) :=
  some ((bd_men b), (bd_held b), (bd_kings b), (bd_side o), (bd_rights o), (bd_passed o), (0 : Int32), (bd_made b), (bd_taken b), (bd_takenAt b), (bd_rightsBefore b), (bd_passedBefore b))
def j_Board_copy_26 (fu : Nat) (b : BdT) (o : BdT) : Option (BdT) :=
  (l_Board_copy_28 fu o fu (0 : Int32) b).bind fun bz_1 =>
  j_Board_copy_63 fu bz_1 o
def f_Board_copy (fu : Nat) (b : BdT) (o : BdT) : Option (BdT) :=
  (l_Board_copy_2 fu o fu (0 : Int32) b).bind fun bz_1 =>
  j_Board_copy_26 fu bz_1 o
def j_Long_bitCount_55 (l0 : Int64) : Option (Int32) :=
  some ((l0).toInt32 &&& (127 : Int32))
def j_Long_bitCount_48 (l0 : Int64) : Option (Int32) :=
  j_Long_bitCount_55 (l0 + (am_ushr l0 (32 : Int32)))
def j_Long_bitCount_41 (l0 : Int64) : Option (Int32) :=
  j_Long_bitCount_48 (l0 + (am_ushr l0 (16 : Int32)))
def j_Long_bitCount_34 (l0 : Int64) : Option (Int32) :=
  j_Long_bitCount_41 (l0 + (am_ushr l0 (8 : Int32)))
def j_Long_bitCount_24 (l0 : Int64) : Option (Int32) :=
  j_Long_bitCount_34 ((l0 + (am_ushr l0 (4 : Int32))) &&& (1085102592571150095 : Int64))
def j_Long_bitCount_10 (l0 : Int64) : Option (Int32) :=
  j_Long_bitCount_24 ((l0 &&& (3689348814741910323 : Int64)) + ((am_ushr l0 (2 : Int32)) &&& (3689348814741910323 : Int64)))
def f_Long_bitCount (l0 : Int64) : Option (Int32) :=
  j_Long_bitCount_10 (l0 - ((am_ushr l0 (1 : Int32)) &&& (6148914691236517205 : Int64)))
def f_Mover_lowest (l0 : Int64) : Option (Int32) :=
  (f_Long_bitCount ((l0 &&& (-l0)) - (1 : Int64))).bind fun r1 =>
  some r1
def f_Mover_passedBit (B : BdT) : Option (Int64) :=
  if (bd_passed B) < (0 : Int32) then
    some (0 : Int64)
  else
    some (am_shl (1 : Int64) (bd_passed B))
def j_Board_seen_85 (fu : Nat) (gg : Int64 → Int32 → Option (Int64)) (b : BdT) (x1 : Int32) (x3 : Int32) (x4 : Int32) (l5 : Int64) (x7 : Int32) : Option (Int64) :=
  gg l5 (x7 + (1 : Int32))
def j_Board_seen_77 (fu : Nat) (gg : Int64 → Int32 → Int32 → Option ((Int64))) (b : BdT) (x1 : Int32) (x3 : Int32) (x4 : Int32) (l5 : Int64) (x7 : Int32) (x9 : Int32) (s0 : Int32) : Option ((Int64)) :=
  gg l5 s0 (x9 + (1 : Int32))
def b_Board_seen_29 (fu : Nat) (b : BdT) (x1 : Int32) (x3 : Int32) (x4 : Int32) (x7 : Int32) (gg : Int64 → Int32 → Int32 → Option ((Int64))) (l5 : Int64) (x8 : Int32) (x9 : Int32) : Option ((Int64)) :=
  if x4 ≤ x9 then
    some l5
  else
    if x8 < (0 : Int32) then
      some l5
    else
      if am_in x8 64 = true then
        if ¬ ((bd_men b) (x8).toNatClampNeg) = (0 : Int32) then
          j_Board_seen_77 fu gg b x1 x3 x4 (l5 ||| (am_shl (1 : Int64) x8)) x7 x9 (-1 : Int32)
        else
          if am_in (((64 : Int32) * x7) + x8) 1024 = true then
            j_Board_seen_77 fu gg b x1 x3 x4 (l5 ||| (am_shl (1 : Int64) x8)) x7 x9 (tb_next ((((64 : Int32) * x7) + x8)).toNatClampNeg)
          else none
      else none
def l_Board_seen_29 (fu : Nat) (b : BdT) (x1 : Int32) (x3 : Int32) (x4 : Int32) (x7 : Int32) : Nat → Int64 → Int32 → Int32 → Option ((Int64))
  | 0 => fun _ _ _ => none
  | n + 1 => b_Board_seen_29 fu b x1 x3 x4 x7 (l_Board_seen_29 fu b x1 x3 x4 x7 n)
def b_Board_seen_6 (fu : Nat) (b : BdT) (x1 : Int32) (x3 : Int32) (x4 : Int32) (gg : Int64 → Int32 → Option (Int64)) (l5 : Int64) (x7 : Int32) : Option (Int64) :=
  if x3 ≤ x7 then
    some l5
  else
    if am_in (((64 : Int32) * x7) + x1) 1024 = true then
      (l_Board_seen_29 fu b x1 x3 x4 x7 fu l5 (tb_next ((((64 : Int32) * x7) + x1)).toNatClampNeg) (0 : Int32)).bind fun l5_1 =>
      j_Board_seen_85 fu gg b x1 x3 x4 l5_1 x7
    else none
def l_Board_seen_6 (fu : Nat) (b : BdT) (x1 : Int32) (x3 : Int32) (x4 : Int32) : Nat → Int64 → Int32 → Option (Int64)
  | 0 => fun _ _ => none
  | n + 1 => b_Board_seen_6 fu b x1 x3 x4 (l_Board_seen_6 fu b x1 x3 x4 n)
def f_Board_seen (fu : Nat) (x1 : Int32) (x2 : Int32) (x3 : Int32) (x4 : Int32) (b : BdT) : Option (Int64) :=
  l_Board_seen_6 fu b x1 x3 x4 fu (0 : Int64) x2
def f_Board_inFront (x1 : Int32) (x2 : Int32) : Option (Int32) :=
  if ¬ x2 = (0 : Int32) then
    if am_in (((64 : Int32) * (1 : Int32)) + x1) 1024 = true then
      some (tb_next ((((64 : Int32) * (1 : Int32)) + x1)).toNatClampNeg)
    else none
  else
    if am_in (((64 : Int32) * (0 : Int32)) + x1) 1024 = true then
      some (tb_next ((((64 : Int32) * (0 : Int32)) + x1)).toNatClampNeg)
    else none
def j_Mover_pawnTargets_142 (fu : Nat) (B : BdT) (l6 : Int64) (x9 : Int32) (s0 : Int32) : Option (Int64) :=
  if s0 = (0 : Int32) then
    some l6
  else
    some (l6 ||| (am_shl (1 : Int64) x9))
def j_Mover_pawnTargets_141 (fu : Nat) (B : BdT) (l6 : Int64) (x9 : Int32) : Option (Int64) :=
  j_Mover_pawnTargets_142 fu B l6 x9 (0 : Int32)
def j_Mover_pawnTargets_119 (fu : Nat) (B : BdT) (l6 : Int64) (x9 : Int32) (s0 : Int32) (s1 : Int32) : Option (Int64) :=
  if ¬ s0 = s1 then
    j_Mover_pawnTargets_141 fu B l6 x9
  else
    if x9 < (0 : Int32) then
      j_Mover_pawnTargets_141 fu B l6 x9
    else
      if am_in x9 64 = true then
        if ¬ ((bd_men B) (x9).toNatClampNeg) = (0 : Int32) then
          j_Mover_pawnTargets_141 fu B l6 x9
        else
          j_Mover_pawnTargets_142 fu B l6 x9 (1 : Int32)
      else none
def j_Mover_pawnTargets_35 (fu : Nat) (B : BdT) (x1 : Int32) (x2 : Int32) (l3 : Int64) (s0 : Int32) : Option (Int64) :=
  (f_Board_seen fu x1 s0 (s0 + (2 : Int32)) (1 : Int32) B).bind fun r2 =>
  (f_Board_inFront x1 x2).bind fun r3 =>
  if r3 < (0 : Int32) then
    some (l3 &&& r2)
  else
    if am_in r3 64 = true then
      if ((bd_men B) (r3).toNatClampNeg) = (0 : Int32) then
        (f_Board_inFront r3 x2).bind fun r4 =>
        if ¬ x2 = (0 : Int32) then
          j_Mover_pawnTargets_119 fu B ((l3 &&& r2) ||| (am_shl (1 : Int64) r3)) r4 (x1 >>> ((3 : Int32) &&& 31)) (6 : Int32)
        else
          j_Mover_pawnTargets_119 fu B ((l3 &&& r2) ||| (am_shl (1 : Int64) r3)) r4 (x1 >>> ((3 : Int32) &&& 31)) (1 : Int32)
      else
        some (l3 &&& r2)
    else none
def f_Mover_pawnTargets (fu : Nat) (x1 : Int32) (B : BdT) : Option (Int64) :=
  if am_in ((1 : Int32) - (bd_side B)) 2 = true then
    (f_Mover_passedBit B).bind fun r1 =>
    if ¬ (bd_side B) = (0 : Int32) then
      j_Mover_pawnTargets_35 fu B x1 (bd_side B) (((bd_held B) (((1 : Int32) - (bd_side B))).toNatClampNeg) ||| r1) (6 : Int32)
    else
      j_Mover_pawnTargets_35 fu B x1 (bd_side B) (((bd_held B) (((1 : Int32) - (bd_side B))).toNatClampNeg) ||| r1) (4 : Int32)
  else none
def j_Mover_castlingTargets_217 (fu : Nat) (B : BdT) (x1 : Int32) (x8 : Int32) (t0 : Int64) : Option (Int64) :=
  if x8 = (0 : Int32) then
    some (t0 ||| (0 : Int64))
  else
    some (t0 ||| (am_shl (1 : Int64) (x1 - (2 : Int32))))
def j_Mover_castlingTargets_188 (fu : Nat) (B : BdT) (x1 : Int32) (x4 : Int32) (x7 : Int32) (x8 : Int32) : Option (Int64) :=
  (f_Board_attacked fu x1 x4 B).bind fun r3 =>
  if r3 = (0 : Int32) then
    if x7 = (0 : Int32) then
      j_Mover_castlingTargets_217 fu B x1 x8 (0 : Int64)
    else
      j_Mover_castlingTargets_217 fu B x1 x8 (am_shl (1 : Int64) (x1 + (2 : Int32)))
  else
    some (0 : Int64)
def j_Mover_castlingTargets_176 (fu : Nat) (B : BdT) (x1 : Int32) (x4 : Int32) (x7 : Int32) (s0 : Int32) : Option (Int64) :=
  if ¬ x7 = (0 : Int32) then
    j_Mover_castlingTargets_188 fu B x1 x4 x7 s0
  else
    if s0 = (0 : Int32) then
      some (0 : Int64)
    else
      j_Mover_castlingTargets_188 fu B x1 x4 x7 s0
def j_Mover_castlingTargets_175 (fu : Nat) (B : BdT) (x1 : Int32) (x4 : Int32) (x7 : Int32) : Option (Int64) :=
  j_Mover_castlingTargets_176 fu B x1 x4 x7 (0 : Int32)
def j_Mover_castlingTargets_133 (fu : Nat) (B : BdT) (x1 : Int32) (x3 : Int32) (x4 : Int32) (l5 : Int64) (s0 : Int32) : Option (Int64) :=
  if (x3 &&& (2 : Int32)) = (0 : Int32) then
    j_Mover_castlingTargets_175 fu B x1 x4 s0
  else
    if ¬ (lg_cmp ((am_shr l5 (x1 - (3 : Int32))) &&& (7 : Int64)) (0 : Int64)) = (0 : Int32) then
      j_Mover_castlingTargets_175 fu B x1 x4 s0
    else
      (f_Board_attacked fu (x1 - (1 : Int32)) x4 B).bind fun r2 =>
      if ¬ r2 = (0 : Int32) then
        j_Mover_castlingTargets_175 fu B x1 x4 s0
      else
        j_Mover_castlingTargets_176 fu B x1 x4 s0 (1 : Int32)
def j_Mover_castlingTargets_132 (fu : Nat) (B : BdT) (x1 : Int32) (x3 : Int32) (x4 : Int32) (l5 : Int64) : Option (Int64) :=
  j_Mover_castlingTargets_133 fu B x1 x3 x4 l5 (0 : Int32)
def j_Mover_castlingTargets_57 (fu : Nat) (B : BdT) (x1 : Int32) (x3 : Int32) (s0 : Int32) (s1 : Int32) : Option (Int64) :=
  if s0 = s1 then
    if am_in (0 : Int32) 2 = true then
      if am_in (1 : Int32) 2 = true then
        if (x3 &&& (1 : Int32)) = (0 : Int32) then
          j_Mover_castlingTargets_132 fu B x1 x3 ((1 : Int32) - (bd_side B)) (((bd_held B) ((0 : Int32)).toNatClampNeg) ||| ((bd_held B) ((1 : Int32)).toNatClampNeg))
        else
          if ¬ (lg_cmp ((am_shr (((bd_held B) ((0 : Int32)).toNatClampNeg) ||| ((bd_held B) ((1 : Int32)).toNatClampNeg)) x1) &&& (6 : Int64)) (0 : Int64)) = (0 : Int32) then
            j_Mover_castlingTargets_132 fu B x1 x3 ((1 : Int32) - (bd_side B)) (((bd_held B) ((0 : Int32)).toNatClampNeg) ||| ((bd_held B) ((1 : Int32)).toNatClampNeg))
          else
            (f_Board_attacked fu (x1 + (1 : Int32)) ((1 : Int32) - (bd_side B)) B).bind fun r1 =>
            if ¬ r1 = (0 : Int32) then
              j_Mover_castlingTargets_132 fu B x1 x3 ((1 : Int32) - (bd_side B)) (((bd_held B) ((0 : Int32)).toNatClampNeg) ||| ((bd_held B) ((1 : Int32)).toNatClampNeg))
            else
              j_Mover_castlingTargets_133 fu B x1 x3 ((1 : Int32) - (bd_side B)) (((bd_held B) ((0 : Int32)).toNatClampNeg) ||| ((bd_held B) ((1 : Int32)).toNatClampNeg)) (1 : Int32)
      else none
    else none
  else
    some (0 : Int64)
def j_Mover_castlingTargets_41 (fu : Nat) (B : BdT) (x1 : Int32) (x2 : Int32) (s0 : Int32) : Option (Int64) :=
  if s0 = (0 : Int32) then
    some (0 : Int64)
  else
    if x2 = (0 : Int32) then
      j_Mover_castlingTargets_57 fu B x1 s0 x1 (60 : Int32)
    else
      j_Mover_castlingTargets_57 fu B x1 s0 x1 (4 : Int32)
def j_Mover_castlingTargets_15 (fu : Nat) (B : BdT) (x1 : Int32) (s0 : Int32) : Option (Int64) :=
  if s0 = (0 : Int32) then
    j_Mover_castlingTargets_41 fu B x1 s0 ((bd_rights B) >>> ((2 : Int32) &&& 31))
  else
    j_Mover_castlingTargets_41 fu B x1 s0 ((bd_rights B) &&& (3 : Int32))
def f_Mover_castlingTargets (fu : Nat) (x1 : Int32) (B : BdT) : Option (Int64) :=
  if ¬ (bd_side B) = (0 : Int32) then
    j_Mover_castlingTargets_15 fu B x1 (0 : Int32)
  else
    j_Mover_castlingTargets_15 fu B x1 (1 : Int32)
def f_Mover_targets (fu : Nat) (x1 : Int32) (B : BdT) : Option (Int64) :=
  if am_in (bd_side B) 2 = true then
    if am_in x1 64 = true then
      if (((bd_men B) (x1).toNatClampNeg) &&& (7 : Int32)) = (1 : Int32) then
        (f_Mover_pawnTargets fu x1 B).bind fun r1 =>
        some r1
      else if (((bd_men B) (x1).toNatClampNeg) &&& (7 : Int32)) = (2 : Int32) then
        (f_Board_seen fu x1 (8 : Int32) (16 : Int32) (1 : Int32) B).bind fun r2 =>
        some ((((bd_held B) ((bd_side B)).toNatClampNeg) ^^^ (-1 : Int64)) &&& r2)
      else if (((bd_men B) (x1).toNatClampNeg) &&& (7 : Int32)) = (3 : Int32) then
        (f_Board_seen fu x1 (4 : Int32) (8 : Int32) (7 : Int32) B).bind fun r3 =>
        some ((((bd_held B) ((bd_side B)).toNatClampNeg) ^^^ (-1 : Int64)) &&& r3)
      else if (((bd_men B) (x1).toNatClampNeg) &&& (7 : Int32)) = (4 : Int32) then
        (f_Board_seen fu x1 (0 : Int32) (4 : Int32) (7 : Int32) B).bind fun r4 =>
        some ((((bd_held B) ((bd_side B)).toNatClampNeg) ^^^ (-1 : Int64)) &&& r4)
      else if (((bd_men B) (x1).toNatClampNeg) &&& (7 : Int32)) = (5 : Int32) then
        (f_Board_seen fu x1 (0 : Int32) (8 : Int32) (7 : Int32) B).bind fun r5 =>
        some ((((bd_held B) ((bd_side B)).toNatClampNeg) ^^^ (-1 : Int64)) &&& r5)
      else (f_Board_seen fu x1 (0 : Int32) (8 : Int32) (1 : Int32) B).bind fun r6 =>
      (f_Mover_castlingTargets fu x1 B).bind fun r7 =>
      some (((((bd_held B) ((bd_side B)).toNatClampNeg) ^^^ (-1 : Int64)) &&& r6) ||| r7)
    else none
  else none
def f_MoveRow_add (x1 : Int32) (w : RwT) : Option (RwT) :=
  if (704 : Int32) ≤ (rw_count w) then
    some w
  else
    if am_in (rw_count w) 704 = true then
      some ((upd (rw_told w) ((rw_count w)).toNatClampNeg x1), ((rw_count w) + (1 : Int32)))
    else none
def b_MoveRow_addAll_77 (fu : Nat) (x1 : Int32) (x4 : Int32) (l5 : Int64) (x7 : Int32) (x10 : Int32) (gg : Int32 → RwT → Option ((RwT))) (x11 : Int32) (w : RwT) : Option ((RwT)) :=
  if (5 : Int32) < x11 then
    some w
  else
    (f_MoveRow_add (x10 + ((4096 : Int32) * x11)) w).bind fun wg3 =>
    gg (x11 + (1 : Int32)) wg3
def l_MoveRow_addAll_77 (fu : Nat) (x1 : Int32) (x4 : Int32) (l5 : Int64) (x7 : Int32) (x10 : Int32) : Nat → Int32 → RwT → Option ((RwT))
  | 0 => fun _ _ => none
  | n + 1 => b_MoveRow_addAll_77 fu x1 x4 l5 x7 x10 (l_MoveRow_addAll_77 fu x1 x4 l5 x7 x10 n)
def j_MoveRow_addAll_102 (fu : Nat) (gg : Int64 → Int32 → RwT → Option (RwT)) (w : RwT) (x1 : Int32) (x4 : Int32) (l5 : Int64) (x7 : Int32) : Option (RwT) :=
  gg l5 (x7 + (1 : Int32)) w
def j_MoveRow_addAll_65 (fu : Nat) (gg : Int64 → Int32 → RwT → Option (RwT)) (w : RwT) (x1 : Int32) (x4 : Int32) (l5 : Int64) (x7 : Int32) (x10 : Int32) : Option (RwT) :=
  (f_MoveRow_add x10 w).bind fun wg2 =>
  j_MoveRow_addAll_102 fu gg wg2 x1 x4 l5 x7
def b_MoveRow_addAll_6 (fu : Nat) (x1 : Int32) (x4 : Int32) (gg : Int64 → Int32 → RwT → Option (RwT)) (l5 : Int64) (x7 : Int32) (w : RwT) : Option (RwT) :=
  if (64 : Int32) ≤ x7 then
    some w
  else
    if (lg_cmp l5 (0 : Int64)) = (0 : Int32) then
      some w
    else
      (f_Long_bitCount ((l5 &&& (-l5)) - (1 : Int64))).bind fun r1 =>
      if x4 = (0 : Int32) then
        j_MoveRow_addAll_65 fu gg w x1 x4 (l5 ^^^ (l5 &&& (-l5))) x7 (x1 + ((64 : Int32) * r1))
      else
        if ¬ (lg_cmp ((l5 &&& (-l5)) &&& (-72057594037927681 : Int64)) (0 : Int64)) = (0 : Int32) then
          (l_MoveRow_addAll_77 fu x1 x4 (l5 ^^^ (l5 &&& (-l5))) x7 (x1 + ((64 : Int32) * r1)) fu (2 : Int32) w).bind fun wz_1 =>
          j_MoveRow_addAll_102 fu gg wz_1 x1 x4 (l5 ^^^ (l5 &&& (-l5))) x7
        else
          j_MoveRow_addAll_65 fu gg w x1 x4 (l5 ^^^ (l5 &&& (-l5))) x7 (x1 + ((64 : Int32) * r1))
def l_MoveRow_addAll_6 (fu : Nat) (x1 : Int32) (x4 : Int32) : Nat → Int64 → Int32 → RwT → Option (RwT)
  | 0 => fun _ _ _ => none
  | n + 1 => b_MoveRow_addAll_6 fu x1 x4 (l_MoveRow_addAll_6 fu x1 x4 n)
def f_MoveRow_addAll (fu : Nat) (x1 : Int32) (l2 : Int64) (x4 : Int32) (w : RwT) : Option (RwT) :=
  l_MoveRow_addAll_6 fu x1 x4 fu l2 (0 : Int32) w
def j_Mover_fill_77 (fu : Nat) (gg : Int64 → Int32 → RwT → Option (RwT)) (w : RwT) (B : BdT) (l2 : Int64) (x4 : Int32) (s1 : Int32) (t2 : Int64) (s3 : Int32) : Option (RwT) :=
  (f_MoveRow_addAll fu s1 t2 s3 w).bind fun wg3 =>
  gg l2 (x4 + (1 : Int32)) wg3
def b_Mover_fill_24 (fu : Nat) (B : BdT) (gg : Int64 → Int32 → RwT → Option (RwT)) (l2 : Int64) (x4 : Int32) (w : RwT) : Option (RwT) :=
  if (64 : Int32) ≤ x4 then
    some w
  else
    if (lg_cmp l2 (0 : Int64)) = (0 : Int32) then
      some w
    else
      (f_Mover_lowest l2).bind fun r1 =>
      (f_Mover_targets fu r1 B).bind fun r2 =>
      if am_in r1 64 = true then
        if ¬ (((bd_men B) (r1).toNatClampNeg) &&& (7 : Int32)) = (1 : Int32) then
          j_Mover_fill_77 fu gg w B (l2 &&& (l2 - (1 : Int64))) x4 r1 r2 (0 : Int32)
        else
          j_Mover_fill_77 fu gg w B (l2 &&& (l2 - (1 : Int64))) x4 r1 r2 (1 : Int32)
      else none
def l_Mover_fill_24 (fu : Nat) (B : BdT) : Nat → Int64 → Int32 → RwT → Option (RwT)
  | 0 => fun _ _ _ => none
  | n + 1 => b_Mover_fill_24 fu B (l_Mover_fill_24 fu B n)
def f_Mover_fill (fu : Nat) (w : RwT) (B : BdT) : Option (RwT) :=
  if am_in (bd_side B) 2 = true then
    l_Mover_fill_24 fu B fu ((bd_held B) ((bd_side B)).toNatClampNeg) (0 : Int32) ((rw_told w), (0 : Int32))
  else none
def f_Board_lift (x1 : Int32) (b : BdT) : Option (BdT) :=
  if am_in x1 64 = true then
    if am_in (((bd_men b) (x1).toNatClampNeg) >>> ((3 : Int32) &&& 31)) 2 = true then
      if am_in (((bd_men b) (x1).toNatClampNeg) >>> ((3 : Int32) &&& 31)) 2 = true then
        if am_in x1 64 = true then
          some ((upd (bd_men b) (x1).toNatClampNeg (0 : Int32)), (vp_updL (bd_held b) ((((bd_men b) (x1).toNatClampNeg) >>> ((3 : Int32) &&& 31))).toNatClampNeg (((bd_held b) ((((bd_men b) (x1).toNatClampNeg) >>> ((3 : Int32) &&& 31))).toNatClampNeg) &&& ((am_shl (1 : Int64) x1) ^^^ (-1 : Int64)))), (bd_kings b), (bd_side b), (bd_rights b), (bd_passed b), (bd_depth b), (bd_made b), (bd_taken b), (bd_takenAt b), (bd_rightsBefore b), (bd_passedBefore b))
        else none
      else none
    else none
  else none
def j_Board_castleRook_68 (b : BdT) (x3 : Int32) (x4 : Int32) (x5 : Int32) (x6 : Int32) (s1 : Int32) : Option (BdT) :=
  (f_Board_lift s1 b).bind fun bg1 =>
  if x3 = (0 : Int32) then
    (f_Board_put x4 x6 bg1).bind fun bg2 =>
    some bg2
  else
    (f_Board_put x5 x6 bg1).bind fun bg3 =>
    some bg3
def j_Board_castleRook_54 (b : BdT) (x3 : Int32) (x4 : Int32) (x5 : Int32) (s0 : Int32) : Option (BdT) :=
  if x3 = (0 : Int32) then
    j_Board_castleRook_68 b x3 x4 x5 s0 x5
  else
    j_Board_castleRook_68 b x3 x4 x5 s0 x4
def j_Board_castleRook_23 (b : BdT) (x1 : Int32) (x2 : Int32) (x3 : Int32) (s0 : Int32) (s1 : Int32) : Option (BdT) :=
  if x3 = (0 : Int32) then
    if am_in ((x1 + x2) >>> ((1 : Int32) &&& 31)) 64 = true then
      j_Board_castleRook_54 b x3 (s0 + s1) ((x1 + x2) >>> ((1 : Int32) &&& 31)) ((bd_men b) (((x1 + x2) >>> ((1 : Int32) &&& 31))).toNatClampNeg)
    else none
  else
    if am_in (s0 + s1) 64 = true then
      j_Board_castleRook_54 b x3 (s0 + s1) ((x1 + x2) >>> ((1 : Int32) &&& 31)) ((bd_men b) ((s0 + s1)).toNatClampNeg)
    else none
def f_Board_castleRook (x1 : Int32) (x2 : Int32) (x3 : Int32) (b : BdT) : Option (BdT) :=
  if (am_abs (x2 - x1)) = (2 : Int32) then
    if x2 ≤ x1 then
      j_Board_castleRook_23 b x1 x2 x3 x1 (-4 : Int32)
    else
      j_Board_castleRook_23 b x1 x2 x3 x1 (3 : Int32)
  else
    some b
def j_Board_make_272 (b : BdT) (x8 : Int32) (s0 : Int32) : Option (BdT) :=
  if s0 = (0 : Int32) then
    some ((bd_men b), (bd_held b), (bd_kings b), (bd_side b), (bd_rights b), (-1 : Int32), (bd_depth b), (bd_made b), (bd_taken b), (bd_takenAt b), (bd_rightsBefore b), (bd_passedBefore b))
  else
    (f_Board_pawnAttacks x8 (bd_side b) b).bind fun r5 =>
    if r5 = (0 : Int32) then
      some ((bd_men b), (bd_held b), (bd_kings b), (bd_side b), (bd_rights b), (-1 : Int32), (bd_depth b), (bd_made b), (bd_taken b), (bd_takenAt b), (bd_rightsBefore b), (bd_passedBefore b))
    else
      some ((bd_men b), (bd_held b), (bd_kings b), (bd_side b), (bd_rights b), x8, (bd_depth b), (bd_made b), (bd_taken b), (bd_takenAt b), (bd_rightsBefore b), (bd_passedBefore b))
def j_Board_make_271 (b : BdT) (x8 : Int32) : Option (BdT) :=
  j_Board_make_272 b x8 (0 : Int32)
def j_Board_make_212 (b : BdT) (x2 : Int32) (x3 : Int32) (x6 : Int32) : Option (BdT) :=
  if am_in x2 64 = true then
    if am_in x3 64 = true then
      if x6 = (0 : Int32) then
        j_Board_make_271 ((bd_men b), (bd_held b), (bd_kings b), ((1 : Int32) - (bd_side b)), ((bd_rights b) &&& (((tb_RIGHTS_AT (x2).toNatClampNeg) ||| (tb_RIGHTS_AT (x3).toNatClampNeg)) ^^^ (-1 : Int32))), (bd_passed b), (bd_depth b), (bd_made b), (bd_taken b), (bd_takenAt b), (bd_rightsBefore b), (bd_passedBefore b)) ((x2 + x3) >>> ((1 : Int32) &&& 31))
      else
        if ¬ (am_abs (x3 - x2)) = (16 : Int32) then
          j_Board_make_271 ((bd_men b), (bd_held b), (bd_kings b), ((1 : Int32) - (bd_side b)), ((bd_rights b) &&& (((tb_RIGHTS_AT (x2).toNatClampNeg) ||| (tb_RIGHTS_AT (x3).toNatClampNeg)) ^^^ (-1 : Int32))), (bd_passed b), (bd_depth b), (bd_made b), (bd_taken b), (bd_takenAt b), (bd_rightsBefore b), (bd_passedBefore b)) ((x2 + x3) >>> ((1 : Int32) &&& 31))
        else
          j_Board_make_272 ((bd_men b), (bd_held b), (bd_kings b), ((1 : Int32) - (bd_side b)), ((bd_rights b) &&& (((tb_RIGHTS_AT (x2).toNatClampNeg) ||| (tb_RIGHTS_AT (x3).toNatClampNeg)) ^^^ (-1 : Int32))), (bd_passed b), (bd_depth b), (bd_made b), (bd_taken b), (bd_takenAt b), (bd_rightsBefore b), (bd_passedBefore b)) ((x2 + x3) >>> ((1 : Int32) &&& 31)) (1 : Int32)
    else none
  else none
def j_Board_make_182 (b : BdT) (x2 : Int32) (x3 : Int32) (x5 : Int32) (x6 : Int32) (s1 : Int32) (s2 : Int32) : Option (BdT) :=
  (f_Board_put s1 s2 b).bind fun bg3 =>
  if ¬ (x5 &&& (7 : Int32)) = (6 : Int32) then
    j_Board_make_212 bg3 x2 x3 x6
  else
    if am_in (bd_side bg3) 2 = true then
      (f_Board_castleRook x2 x3 (1 : Int32) ((bd_men bg3), (bd_held bg3), (upd (bd_kings bg3) ((bd_side bg3)).toNatClampNeg x3), (bd_side bg3), (bd_rights bg3), (bd_passed bg3), (bd_depth bg3), (bd_made bg3), (bd_taken bg3), (bd_takenAt bg3), (bd_rightsBefore bg3), (bd_passedBefore bg3))).bind fun bg4 =>
      j_Board_make_212 bg4 x2 x3 x6
    else none
def j_Board_make_74 (b : BdT) (x1 : Int32) (x2 : Int32) (x3 : Int32) (x4 : Int32) (x5 : Int32) (x6 : Int32) (s0 : Int32) : Option (BdT) :=
  if am_in (bd_depth b) 16 = true then
    if am_in s0 64 = true then
      if am_in (bd_depth b) 16 = true then
        if am_in (bd_depth b) 16 = true then
          if am_in (bd_depth b) 16 = true then
            if am_in (bd_depth b) 16 = true then
              (f_Board_lift s0 ((bd_men b), (bd_held b), (bd_kings b), (bd_side b), (bd_rights b), (bd_passed b), ((bd_depth b) + (1 : Int32)), (upd (bd_made b) ((bd_depth b)).toNatClampNeg x1), (upd (bd_taken b) ((bd_depth b)).toNatClampNeg ((bd_men b) (s0).toNatClampNeg)), (upd (bd_takenAt b) ((bd_depth b)).toNatClampNeg s0), (upd (bd_rightsBefore b) ((bd_depth b)).toNatClampNeg (bd_rights b)), (upd (bd_passedBefore b) ((bd_depth b)).toNatClampNeg (bd_passed b)))).bind fun bg1 =>
              (f_Board_lift x2 bg1).bind fun bg2 =>
              if ¬ x4 = (0 : Int32) then
                j_Board_make_182 bg2 x2 x3 x5 x6 x3 (x4 + ((8 : Int32) * (bd_side bg2)))
              else
                j_Board_make_182 bg2 x2 x3 x5 x6 x3 x5
            else none
          else none
        else none
      else none
    else none
  else none
def j_Board_make_73 (b : BdT) (x1 : Int32) (x2 : Int32) (x3 : Int32) (x4 : Int32) (x5 : Int32) (x6 : Int32) : Option (BdT) :=
  j_Board_make_74 b x1 x2 x3 x4 x5 x6 x3
def j_Board_make_51 (b : BdT) (x1 : Int32) (x2 : Int32) (x3 : Int32) (x4 : Int32) (x5 : Int32) (s0 : Int32) : Option (BdT) :=
  if s0 = (0 : Int32) then
    j_Board_make_73 b x1 x2 x3 x4 x5 s0
  else
    if ¬ x3 = (bd_passed b) then
      j_Board_make_73 b x1 x2 x3 x4 x5 s0
    else
      j_Board_make_74 b x1 x2 x3 x4 x5 s0 (x3 ^^^ (8 : Int32))
def f_Board_make (x1 : Int32) (b : BdT) : Option (BdT) :=
  if (bd_depth b) < (16 : Int32) then
    if am_in (x1 &&& (63 : Int32)) 64 = true then
      if ¬ (((bd_men b) ((x1 &&& (63 : Int32))).toNatClampNeg) &&& (7 : Int32)) = (1 : Int32) then
        j_Board_make_51 b x1 (x1 &&& (63 : Int32)) ((x1 >>> ((6 : Int32) &&& 31)) &&& (63 : Int32)) (x1 >>> ((12 : Int32) &&& 31)) ((bd_men b) ((x1 &&& (63 : Int32))).toNatClampNeg) (0 : Int32)
      else
        j_Board_make_51 b x1 (x1 &&& (63 : Int32)) ((x1 >>> ((6 : Int32) &&& 31)) &&& (63 : Int32)) (x1 >>> ((12 : Int32) &&& 31)) ((bd_men b) ((x1 &&& (63 : Int32))).toNatClampNeg) (1 : Int32)
    else none
  else
    some b
def j_Board_unmake_151 (b : BdT) : Option (BdT) :=
  if am_in (bd_depth b) 16 = true then
    if am_in (bd_depth b) 16 = true then
      some ((bd_men b), (bd_held b), (bd_kings b), (bd_side b), ((bd_rightsBefore b) ((bd_depth b)).toNatClampNeg), ((bd_passedBefore b) ((bd_depth b)).toNatClampNeg), (bd_depth b), (bd_made b), (bd_taken b), (bd_takenAt b), (bd_rightsBefore b), (bd_passedBefore b))
    else none
  else none
def j_Board_unmake_124 (b : BdT) (x2 : Int32) (x3 : Int32) (x4 : Int32) : Option (BdT) :=
  if ¬ (x4 &&& (7 : Int32)) = (6 : Int32) then
    j_Board_unmake_151 b
  else
    if am_in (bd_side b) 2 = true then
      (f_Board_castleRook x2 x3 (0 : Int32) ((bd_men b), (bd_held b), (upd (bd_kings b) ((bd_side b)).toNatClampNeg x2), (bd_side b), (bd_rights b), (bd_passed b), (bd_depth b), (bd_made b), (bd_taken b), (bd_takenAt b), (bd_rightsBefore b), (bd_passedBefore b))).bind fun bg4 =>
      j_Board_unmake_151 bg4
    else none
def j_Board_unmake_76 (b : BdT) (x2 : Int32) (x3 : Int32) (s0 : Int32) : Option (BdT) :=
  (f_Board_lift x3 b).bind fun bg1 =>
  (f_Board_put x2 s0 bg1).bind fun bg2 =>
  if am_in (bd_depth bg2) 16 = true then
    if ((bd_taken bg2) ((bd_depth bg2)).toNatClampNeg) = (0 : Int32) then
      j_Board_unmake_124 bg2 x2 x3 s0
    else
      if am_in (bd_depth bg2) 16 = true then
        if am_in (bd_depth bg2) 16 = true then
          (f_Board_put ((bd_takenAt bg2) ((bd_depth bg2)).toNatClampNeg) ((bd_taken bg2) ((bd_depth bg2)).toNatClampNeg) bg2).bind fun bg3 =>
          j_Board_unmake_124 bg3 x2 x3 s0
        else none
      else none
  else none
def f_Board_unmake (b : BdT) : Option (BdT) :=
  if (0 : Int32) < (bd_depth b) then
    if am_in ((bd_depth b) - (1 : Int32)) 16 = true then
      if ¬ (((bd_made b) (((bd_depth b) - (1 : Int32))).toNatClampNeg) >>> ((12 : Int32) &&& 31)) = (0 : Int32) then
        j_Board_unmake_76 ((bd_men b), (bd_held b), (bd_kings b), ((1 : Int32) - (bd_side b)), (bd_rights b), (bd_passed b), ((bd_depth b) - (1 : Int32)), (bd_made b), (bd_taken b), (bd_takenAt b), (bd_rightsBefore b), (bd_passedBefore b)) (((bd_made b) (((bd_depth b) - (1 : Int32))).toNatClampNeg) &&& (63 : Int32)) ((((bd_made b) (((bd_depth b) - (1 : Int32))).toNatClampNeg) >>> ((6 : Int32) &&& 31)) &&& (63 : Int32)) ((1 : Int32) + ((8 : Int32) * ((1 : Int32) - (bd_side b))))
      else
        if am_in ((((bd_made b) (((bd_depth b) - (1 : Int32))).toNatClampNeg) >>> ((6 : Int32) &&& 31)) &&& (63 : Int32)) 64 = true then
          j_Board_unmake_76 ((bd_men b), (bd_held b), (bd_kings b), ((1 : Int32) - (bd_side b)), (bd_rights b), (bd_passed b), ((bd_depth b) - (1 : Int32)), (bd_made b), (bd_taken b), (bd_takenAt b), (bd_rightsBefore b), (bd_passedBefore b)) (((bd_made b) (((bd_depth b) - (1 : Int32))).toNatClampNeg) &&& (63 : Int32)) ((((bd_made b) (((bd_depth b) - (1 : Int32))).toNatClampNeg) >>> ((6 : Int32) &&& 31)) &&& (63 : Int32)) ((bd_men b) (((((bd_made b) (((bd_depth b) - (1 : Int32))).toNatClampNeg) >>> ((6 : Int32) &&& 31)) &&& (63 : Int32))).toNatClampNeg)
        else none
    else none
  else
    some b
def j_Mover_fillLegal_55 (fu : Nat) (gg : Int32 → Int32 → RwT → BdT → Option (RwT × BdT)) (w : RwT) (B : BdT) (x2 : Int32) (x3 : Int32) : Option (RwT × BdT) :=
  (f_Board_unmake B).bind fun bg4 =>
  gg x2 (x3 + (1 : Int32)) w bg4
def b_Mover_fillLegal_9 (fu : Nat) (gg : Int32 → Int32 → RwT → BdT → Option (RwT × BdT)) (x2 : Int32) (x3 : Int32) (w : RwT) (B : BdT) : Option (RwT × BdT) :=
  if (rw_count w) ≤ x3 then
    some (((rw_told w), x2), B)
  else
    if am_in x3 704 = true then
      (f_Board_make ((rw_told w) (x3).toNatClampNeg) B).bind fun bg2 =>
      (f_Board_isLegal fu bg2).bind fun r3 =>
      if r3 = (0 : Int32) then
        j_Mover_fillLegal_55 fu gg w bg2 x2 x3
      else
        if am_in x3 704 = true then
          if am_in x2 704 = true then
            j_Mover_fillLegal_55 fu gg ((upd (rw_told w) (x2).toNatClampNeg ((rw_told w) (x3).toNatClampNeg)), (rw_count w)) bg2 (x2 + (1 : Int32)) x3
          else none
        else none
    else none
def l_Mover_fillLegal_9 (fu : Nat) : Nat → Int32 → Int32 → RwT → BdT → Option (RwT × BdT)
  | 0 => fun _ _ _ _ => none
  | n + 1 => b_Mover_fillLegal_9 fu (l_Mover_fillLegal_9 fu n)
def f_Mover_fillLegal (fu : Nat) (w : RwT) (B : BdT) : Option (RwT × BdT) :=
  (f_Mover_fill fu w B).bind fun wg1 =>
  l_Mover_fillLegal_9 fu fu (0 : Int32) (0 : Int32) wg1 B
def f_HelpLines_forget (P : HeT) : Option (HeT) :=
  some ((he_path P), (he_kept P), (he_firstKept P), (0 : Int32), (he_goal P), (he_plies P), (he_count P))
def f_Mp_positionChanged (fu : Nat) (B : BdT) (L : RwT) (F : RwT) (P : HeT) : Option (BdT × RwT × RwT × HeT) :=
  (f_Mover_fillLegal fu L B).bind fun (wg1, bg2) =>
  (f_HelpLines_forget P).bind fun pg3 =>
  some (bg2, wg1, ((rw_told F), (0 : Int32)), pg3)
def f_Mp_load (fu : Nat) (T : TxT) (D : BdT) (r : RdT) (B : BdT) (L : RwT) (F : RwT) (P : HeT) : Option (Int32 × TxT × BdT × RdT × BdT × RwT × RwT × HeT) :=
  (f_Reader_read fu T D r).bind fun (r1, dg2, rg3) =>
  if ¬ r1 = (0 : Int32) then
    some (r1, T, dg2, rg3, B, L, F, P)
  else
    (f_Board_copy fu B dg2).bind fun bg4 =>
    (f_Text_shorten (0 : Int32) T).bind fun (r5, tg6) =>
    (f_Mp_positionChanged fu bg4 L F P).bind fun (bg7, lg8, fg9, pg10) =>
    some (r1, tg6, dg2, rg3, bg7, lg8, fg9, pg10)
def f_Mp_moves (L : RwT) : Option (Int32) :=
  some (rw_count L)
def f_MoveRow_has (x1 : Int32) (w : RwT) : Option (Int32) :=
  if x1 < (0 : Int32) then
    some (0 : Int32)
  else
    if (rw_count w) ≤ x1 then
      some (0 : Int32)
    else
      some (1 : Int32)
def f_Mp_move (x1 : Int32) (L : RwT) : Option ((Int32 ⊕ Nat)) :=
  (f_MoveRow_has x1 L).bind fun r1 =>
  if ¬ r1 = (0 : Int32) then
    if am_in x1 704 = true then
      some (.inl ((rw_told L) (x1).toNatClampNeg))
    else none
  else
    some (.inr 2)
def b_MoveRow_holds_2 (fu : Nat) (w : RwT) (x1 : Int32) (gg : Int32 → Option (Int32)) (x2 : Int32) : Option (Int32) :=
  if (rw_count w) ≤ x2 then
    some (0 : Int32)
  else
    if am_in x2 704 = true then
      if ¬ ((rw_told w) (x2).toNatClampNeg) = x1 then
        gg (x2 + (1 : Int32))
      else
        some (1 : Int32)
    else none
def l_MoveRow_holds_2 (fu : Nat) (w : RwT) (x1 : Int32) : Nat → Int32 → Option (Int32)
  | 0 => fun _ => none
  | n + 1 => b_MoveRow_holds_2 fu w x1 (l_MoveRow_holds_2 fu w x1 n)
def f_MoveRow_holds (fu : Nat) (x1 : Int32) (w : RwT) : Option (Int32) :=
  l_MoveRow_holds_2 fu w x1 fu (0 : Int32)
def f_Mp_play (fu : Nat) (x1 : Int32) (B : BdT) (L : RwT) (F : RwT) (P : HeT) : Option ((Int32 ⊕ Nat) × BdT × RwT × RwT × HeT) :=
  (f_MoveRow_holds fu x1 L).bind fun r1 =>
  if ¬ r1 = (0 : Int32) then
    if (bd_depth B) < (8 : Int32) then
      (f_Board_make x1 B).bind fun bg2 =>
      (f_Mp_positionChanged fu bg2 L F P).bind fun (bg3, lg4, fg5, pg6) =>
      some (.inl (bd_depth bg3), bg3, lg4, fg5, pg6)
    else
      some (.inr 3, B, L, F, P)
  else
    some (.inr 1, B, L, F, P)
def f_Mp_back (fu : Nat) (B : BdT) (L : RwT) (F : RwT) (P : HeT) : Option ((Int32 ⊕ Nat) × BdT × RwT × RwT × HeT) :=
  if ¬ (bd_depth B) = (0 : Int32) then
    (f_Board_unmake B).bind fun bg1 =>
    (f_Mp_positionChanged fu bg1 L F P).bind fun (bg2, lg3, fg4, pg5) =>
    some (.inl (bd_depth bg2), bg2, lg3, fg4, pg5)
  else
    some (.inr 0, B, L, F, P)
def f_Board_inCheck (fu : Nat) (b : BdT) : Option (Int32) :=
  if am_in (bd_side b) 2 = true then
    (f_Board_attacked fu ((bd_kings b) ((bd_side b)).toNatClampNeg) ((1 : Int32) - (bd_side b)) b).bind fun r1 =>
    some (vp_nar .boolean r1)
  else none
def f_Mp_beaten (fu : Nat) (B : BdT) (L : RwT) : Option (Int32) :=
  if (rw_count L) ≤ (0 : Int32) then
    (f_Board_inCheck fu B).bind fun r1 =>
    if r1 = (0 : Int32) then
      some (2 : Int32)
    else
      some (1 : Int32)
  else
    some (0 : Int32)
def f_Mp_checkGoal (x0 : Int32) : Option ((Unit ⊕ Nat)) :=
  if x0 = (0 : Int32) then
    some (.inl ())
  else
    if x0 = (1 : Int32) then
      some (.inl ())
    else
      some (.inr 1)
def j_Mp_checkProblem_19 (x1 : Int32) (x2 : Int32) : Option ((Unit ⊕ Nat)) :=
  (f_Mp_checkGoal x1).bind fun a0 => match a0 with
  | .inr a0 => some (.inr a0)
  | .inl _ =>
    if x2 < (1 : Int32) then
      some (.inr 1)
    else
      if x2 ≤ (3 : Int32) then
        some (.inl ())
      else
        some (.inr 1)
def f_Mp_checkProblem (x0 : Int32) (x1 : Int32) (x2 : Int32) : Option ((Unit ⊕ Nat)) :=
  if x0 = (0 : Int32) then
    j_Mp_checkProblem_19 x1 x2
  else
    if x0 = (1 : Int32) then
      j_Mp_checkProblem_19 x1 x2
    else
      some (.inr 1)
def b_Solver_ask_12 (fu : Nat) (gg : Int32 → SoT → Option (SoT)) (x3 : Int32) (S : SoT) : Option (SoT) :=
  if (6 : Int32) ≤ x3 then
    some S
  else
    if am_in x3 6 = true then
      gg (x3 + (1 : Int32)) ((upd (so_hints S) (x3).toNatClampNeg (-1 : Int32)), (so_kind S), (so_goal S))
    else none
def l_Solver_ask_12 (fu : Nat) : Nat → Int32 → SoT → Option (SoT)
  | 0 => fun _ _ => none
  | n + 1 => b_Solver_ask_12 fu (l_Solver_ask_12 fu n)
def f_Solver_ask (fu : Nat) (x1 : Int32) (x2 : Int32) (S : SoT) : Option (SoT) :=
  l_Solver_ask_12 fu fu (0 : Int32) ((so_hints S), x1, x2)
def f_Mover_fillFrom (fu : Nat) (x1 : Int32) (w : RwT) (B : BdT) : Option (RwT) :=
  (f_Mover_targets fu x1 B).bind fun r1 =>
  if am_in x1 64 = true then
    if ¬ (((bd_men B) (x1).toNatClampNeg) &&& (7 : Int32)) = (1 : Int32) then
      (f_MoveRow_addAll fu x1 r1 (0 : Int32) ((rw_told w), (0 : Int32))).bind fun wg2 =>
      some wg2
    else
      (f_MoveRow_addAll fu x1 r1 (1 : Int32) ((rw_told w), (0 : Int32))).bind fun wg3 =>
      some wg3
  else none
def b_MoveRow_bringFirst_2 (fu : Nat) (w : RwT) (x1 : Int32) (gg : Int32 → Option (((Int32)) ⊕ (RwT))) (x2 : Int32) : Option (((Int32)) ⊕ (RwT)) :=
  if (rw_count w) ≤ x2 then
    some (.inr w)
  else
    if am_in x2 704 = true then
      if ¬ ((rw_told w) (x2).toNatClampNeg) = x1 then
        gg (x2 + (1 : Int32))
      else
        some (.inl x2)
    else none
def l_MoveRow_bringFirst_2 (fu : Nat) (w : RwT) (x1 : Int32) : Nat → Int32 → Option (((Int32)) ⊕ (RwT))
  | 0 => fun _ => none
  | n + 1 => b_MoveRow_bringFirst_2 fu w x1 (l_MoveRow_bringFirst_2 fu w x1 n)
def j_MoveRow_bringFirst_20 (fu : Nat) (w : RwT) (x1 : Int32) (x2 : Int32) : Option (RwT) :=
  if am_in (0 : Int32) 704 = true then
    if am_in x2 704 = true then
      if am_in (0 : Int32) 704 = true then
        some ((upd (upd (rw_told w) (x2).toNatClampNeg ((rw_told w) ((0 : Int32)).toNatClampNeg)) ((0 : Int32)).toNatClampNeg x1), (rw_count w))
      else none
    else none
  else none
def f_MoveRow_bringFirst (fu : Nat) (x1 : Int32) (w : RwT) : Option (RwT) :=
  (l_MoveRow_bringFirst_2 fu w x1 fu (1 : Int32)).bind fun z => match z with
  | .inl x2_1 =>
    j_MoveRow_bringFirst_20 fu w x1 x2_1
  | .inr z => some z
def b_Mover_canGo_9 (fu : Nat) (x1 : Int32) (gg : Int64 → Int32 → BdT → Option (Int32 × BdT)) (l2 : Int64) (x4 : Int32) (B : BdT) : Option (Int32 × BdT) :=
  if (64 : Int32) ≤ x4 then
    some ((0 : Int32), B)
  else
    if (lg_cmp l2 (0 : Int64)) = (0 : Int32) then
      some ((0 : Int32), B)
    else
      (f_Mover_lowest l2).bind fun r2 =>
      (f_Board_make (x1 + ((64 : Int32) * r2)) B).bind fun bg3 =>
      (f_Board_isLegal fu bg3).bind fun r4 =>
      (f_Board_unmake bg3).bind fun bg5 =>
      if r4 = (0 : Int32) then
        gg (l2 &&& (l2 - (1 : Int64))) (x4 + (1 : Int32)) bg5
      else
        some ((1 : Int32), bg5)
def l_Mover_canGo_9 (fu : Nat) (x1 : Int32) : Nat → Int64 → Int32 → BdT → Option (Int32 × BdT)
  | 0 => fun _ _ _ => none
  | n + 1 => b_Mover_canGo_9 fu x1 (l_Mover_canGo_9 fu x1 n)
def f_Mover_canGo (fu : Nat) (x1 : Int32) (B : BdT) : Option (Int32 × BdT) :=
  (f_Mover_targets fu x1 B).bind fun r1 =>
  l_Mover_canGo_9 fu x1 fu r1 (0 : Int32) B
def j_Mover_isBeaten_95 (fu : Nat) (gg : Int64 → Int64 → Int32 → BdT → Option (Int32 × BdT)) (B : BdT) (l3 : Int64) (x7 : Int32) (t0 : Int64) : Option (Int32 × BdT) :=
  (f_Mover_lowest t0).bind fun r2 =>
  (f_Mover_canGo fu r2 B).bind fun (r3, bg4) =>
  if r3 = (0 : Int32) then
    gg (l3 &&& ((am_shl (1 : Int64) r2) ^^^ (-1 : Int64))) (0 : Int64) (x7 + (1 : Int32)) bg4
  else
    some ((0 : Int32), bg4)
def b_Mover_isBeaten_69 (fu : Nat) (gg : Int64 → Int64 → Int32 → BdT → Option (Int32 × BdT)) (l3 : Int64) (l5 : Int64) (x7 : Int32) (B : BdT) : Option (Int32 × BdT) :=
  if (64 : Int32) ≤ x7 then
    some ((1 : Int32), B)
  else
    if (lg_cmp l3 (0 : Int64)) = (0 : Int32) then
      some ((1 : Int32), B)
    else
      if (lg_cmp l5 (0 : Int64)) = (0 : Int32) then
        j_Mover_isBeaten_95 fu gg B l3 x7 l3
      else
        j_Mover_isBeaten_95 fu gg B l3 x7 l5
def l_Mover_isBeaten_69 (fu : Nat) : Nat → Int64 → Int64 → Int32 → BdT → Option (Int32 × BdT)
  | 0 => fun _ _ _ _ => none
  | n + 1 => b_Mover_isBeaten_69 fu (l_Mover_isBeaten_69 fu n)
def j_Mover_isBeaten_64 (fu : Nat) (B : BdT) (l3 : Int64) (t0 : Int64) : Option (Int32 × BdT) :=
  l_Mover_isBeaten_69 fu fu l3 t0 (0 : Int32) B
def j_Mover_isBeaten_18 (fu : Nat) (B : BdT) (x2 : Int32) (s0 : Int32) (s1 : Int32) : Option (Int32 × BdT) :=
  if s0 = s1 then
    if am_in (bd_side B) 2 = true then
      if x2 = (0 : Int32) then
        j_Mover_isBeaten_64 fu B ((bd_held B) ((bd_side B)).toNatClampNeg) (0 : Int64)
      else
        if am_in (bd_side B) 2 = true then
          j_Mover_isBeaten_64 fu B ((bd_held B) ((bd_side B)).toNatClampNeg) (am_shl (1 : Int64) ((bd_kings B) ((bd_side B)).toNatClampNeg))
        else none
    else none
  else
    some ((0 : Int32), B)
def f_Mover_isBeaten (fu : Nat) (x1 : Int32) (B : BdT) : Option (Int32 × BdT) :=
  (f_Board_inCheck fu B).bind fun r1 =>
  if ¬ x1 = (0 : Int32) then
    j_Mover_isBeaten_18 fu B r1 r1 (0 : Int32)
  else
    j_Mover_isBeaten_18 fu B r1 r1 (1 : Int32)
def j_Board_shields_143 (fu : Nat) (gg : Int64 → Int32 → Option (Int64)) (b : BdT) (x1 : Int32) (x2 : Int32) (l3 : Int64) (x5 : Int32) : Option (Int64) :=
  gg l3 (x5 + (1 : Int32))
def j_Board_shields_122 (fu : Nat) (gg : Int64 → Int32 → Int32 → Option ((Int64 × Int32) ⊕ (Unit))) (b : BdT) (x1 : Int32) (x2 : Int32) (l3 : Int64) (x5 : Int32) (l6 : Int64) (x8 : Int32) (x9 : Int32) : Option ((Int64 × Int32) ⊕ (Unit)) :=
  if am_in (((64 : Int32) * x5) + x8) 1024 = true then
    gg l6 (tb_next ((((64 : Int32) * x5) + x8)).toNatClampNeg) (x9 + (1 : Int32))
  else none
def j_Board_shields_106 (fu : Nat) (gg : Int64 → Int32 → Option (Int64)) (b : BdT) (x1 : Int32) (x2 : Int32) (x5 : Int32) (t0 : Int64) (t1 : Int64) : Option (Int64) :=
  j_Board_shields_143 fu gg b x1 x2 (t0 ||| t1) x5
def j_Board_shields_111 (fu : Nat) (gg : Int64 → Int32 → Int32 → Option ((Int64 × Int32) ⊕ (Unit))) (b : BdT) (x1 : Int32) (x2 : Int32) (l3 : Int64) (x5 : Int32) (l6 : Int64) (x8 : Int32) (x9 : Int32) (x10 : Int32) : Option ((Int64 × Int32) ⊕ (Unit)) :=
  if x10 = (0 : Int32) then
    j_Board_shields_122 fu gg b x1 x2 l3 x5 l6 x8 x9
  else
    j_Board_shields_122 fu gg b x1 x2 l3 x5 (am_shl (1 : Int64) x8) x8 x9
def j_Board_shields_92 (fu : Nat) (gg : Int64 → Int32 → Option (Int64)) (b : BdT) (x1 : Int32) (x2 : Int32) (l3 : Int64) (x5 : Int32) (l6 : Int64) (s0 : Int32) : Option (Int64) :=
  if s0 = (0 : Int32) then
    j_Board_shields_106 fu gg b x1 x2 x5 l3 (0 : Int64)
  else
    j_Board_shields_106 fu gg b x1 x2 x5 l3 l6
def b_Board_shields_32 (fu : Nat) (b : BdT) (x1 : Int32) (x2 : Int32) (l3 : Int64) (x5 : Int32) (gg : Int64 → Int32 → Int32 → Option ((Int64 × Int32) ⊕ (Unit))) (l6 : Int64) (x8 : Int32) (x9 : Int32) : Option ((Int64 × Int32) ⊕ (Unit)) :=
  if (7 : Int32) ≤ x9 then
    some (.inr ())
  else
    if x8 < (0 : Int32) then
      some (.inr ())
    else
      if am_in x8 64 = true then
        if ((bd_men b) (x8).toNatClampNeg) = (0 : Int32) then
          j_Board_shields_111 fu gg b x1 x2 l3 x5 l6 x8 x9 ((bd_men b) (x8).toNatClampNeg)
        else
          if (lg_cmp l6 (0 : Int64)) = (0 : Int32) then
            j_Board_shields_111 fu gg b x1 x2 l3 x5 l6 x8 x9 ((bd_men b) (x8).toNatClampNeg)
          else
            some (.inl (l6, ((bd_men b) (x8).toNatClampNeg)))
      else none
def l_Board_shields_32 (fu : Nat) (b : BdT) (x1 : Int32) (x2 : Int32) (l3 : Int64) (x5 : Int32) : Nat → Int64 → Int32 → Int32 → Option ((Int64 × Int32) ⊕ (Unit))
  | 0 => fun _ _ _ => none
  | n + 1 => b_Board_shields_32 fu b x1 x2 l3 x5 (l_Board_shields_32 fu b x1 x2 l3 x5 n)
def j_Board_shields_91 (fu : Nat) (gg : Int64 → Int32 → Option (Int64)) (b : BdT) (x1 : Int32) (x2 : Int32) (l3 : Int64) (x5 : Int32) (l6 : Int64) : Option (Int64) :=
  j_Board_shields_92 fu gg b x1 x2 l3 x5 l6 (0 : Int32)
def j_Board_shields_65 (fu : Nat) (gg : Int64 → Int32 → Option (Int64)) (b : BdT) (x1 : Int32) (x2 : Int32) (l3 : Int64) (x5 : Int32) (l6 : Int64) (x10 : Int32) : Option (Int64) :=
  if ¬ (x10 >>> ((3 : Int32) &&& 31)) = x2 then
    j_Board_shields_91 fu gg b x1 x2 l3 x5 l6
  else
    if am_in x10 16 = true then
      if (((tb_FAR (x10).toNatClampNeg) >>> (x5 &&& 31)) &&& (1 : Int32)) = (0 : Int32) then
        j_Board_shields_91 fu gg b x1 x2 l3 x5 l6
      else
        j_Board_shields_92 fu gg b x1 x2 l3 x5 l6 (1 : Int32)
    else none
def b_Board_shields_5 (fu : Nat) (b : BdT) (x1 : Int32) (x2 : Int32) (gg : Int64 → Int32 → Option (Int64)) (l3 : Int64) (x5 : Int32) : Option (Int64) :=
  if (8 : Int32) ≤ x5 then
    some l3
  else
    if am_in (((64 : Int32) * x5) + x1) 1024 = true then
      (l_Board_shields_32 fu b x1 x2 l3 x5 fu (0 : Int64) (tb_next ((((64 : Int32) * x5) + x1)).toNatClampNeg) (0 : Int32)).bind fun z => match z with
      | .inl (l6_1, x10_1) =>
        j_Board_shields_65 fu gg b x1 x2 l3 x5 l6_1 x10_1
      | .inr () =>
        j_Board_shields_143 fu gg b x1 x2 l3 x5
    else none
def l_Board_shields_5 (fu : Nat) (b : BdT) (x1 : Int32) (x2 : Int32) : Nat → Int64 → Int32 → Option (Int64)
  | 0 => fun _ _ => none
  | n + 1 => b_Board_shields_5 fu b x1 x2 (l_Board_shields_5 fu b x1 x2 n)
def f_Board_shields (fu : Nat) (x1 : Int32) (x2 : Int32) (b : BdT) : Option (Int64) :=
  l_Board_shields_5 fu b x1 x2 fu (0 : Int64) (0 : Int32)
def j_Mover_takeAim_58 (fu : Nat) (B : BdT) (V : MvT) (x1 : Int32) (x2 : Int32) (l3 : Int64) (l5 : Int64) (s0 : Int32) : Option (MvT) :=
  (f_Board_seen fu x2 s0 (s0 + (2 : Int32)) (1 : Int32) B).bind fun r3 =>
  (f_Mover_passedBit B).bind fun r4 =>
  if am_in (1 : Int32) 7 = true then
    (f_Board_seen fu x2 (8 : Int32) (16 : Int32) (1 : Int32) B).bind fun r5 =>
    if am_in (2 : Int32) 7 = true then
      if am_in (3 : Int32) 7 = true then
        if am_in (4 : Int32) 7 = true then
          if am_in (5 : Int32) 7 = true then
            if am_in (6 : Int32) 7 = true then
              (f_Board_shields fu x2 x1 B).bind fun r6 =>
              some ((vp_updL (vp_updL (vp_updL (vp_updL (vp_updL (vp_updL (mv_aims V) ((1 : Int32)).toNatClampNeg ((r3 ||| (-72057594037927681 : Int64)) ||| r4)) ((2 : Int32)).toNatClampNeg r5) ((3 : Int32)).toNatClampNeg l3) ((4 : Int32)).toNatClampNeg l5) ((5 : Int32)).toNatClampNeg (l3 ||| l5)) ((6 : Int32)).toNatClampNeg (4899916394579099716 : Int64)), r6)
            else none
          else none
        else none
      else none
    else none
  else none
def f_Mover_takeAim (fu : Nat) (B : BdT) (V : MvT) : Option (MvT) :=
  if am_in ((1 : Int32) - (bd_side B)) 2 = true then
    (f_Board_seen fu ((bd_kings B) (((1 : Int32) - (bd_side B))).toNatClampNeg) (4 : Int32) (8 : Int32) (7 : Int32) B).bind fun r1 =>
    (f_Board_seen fu ((bd_kings B) (((1 : Int32) - (bd_side B))).toNatClampNeg) (0 : Int32) (4 : Int32) (7 : Int32) B).bind fun r2 =>
    if ¬ (bd_side B) = (0 : Int32) then
      j_Mover_takeAim_58 fu B V (bd_side B) ((bd_kings B) (((1 : Int32) - (bd_side B))).toNatClampNeg) r1 r2 (4 : Int32)
    else
      j_Mover_takeAim_58 fu B V (bd_side B) ((bd_kings B) (((1 : Int32) - (bd_side B))).toNatClampNeg) r1 r2 (6 : Int32)
  else none
def j_Mover_fillChecks_117 (fu : Nat) (gg : Int64 → Int32 → RwT → Option (RwT × MvT)) (w : RwT) (B : BdT) (V : MvT) (l2 : Int64) (x4 : Int32) (s1 : Int32) (t2 : Int64) (s3 : Int32) : Option (RwT × MvT) :=
  (f_MoveRow_addAll fu s1 t2 s3 w).bind fun wg4 =>
  gg l2 (x4 + (1 : Int32)) wg4
def j_Mover_fillChecks_92 (fu : Nat) (gg : Int64 → Int32 → RwT → Option (RwT × MvT)) (w : RwT) (B : BdT) (V : MvT) (l2 : Int64) (x4 : Int32) (x5 : Int32) (x6 : Int32) (t0 : Int64) : Option (RwT × MvT) :=
  (f_Mover_targets fu x5 B).bind fun r3 =>
  if ¬ x6 = (1 : Int32) then
    j_Mover_fillChecks_117 fu gg w B V l2 x4 x5 (r3 &&& t0) (0 : Int32)
  else
    j_Mover_fillChecks_117 fu gg w B V l2 x4 x5 (r3 &&& t0) (1 : Int32)
def b_Mover_fillChecks_28 (fu : Nat) (B : BdT) (V : MvT) (gg : Int64 → Int32 → RwT → Option (RwT × MvT)) (l2 : Int64) (x4 : Int32) (w : RwT) : Option (RwT × MvT) :=
  if (64 : Int32) ≤ x4 then
    some (w, V)
  else
    if (lg_cmp l2 (0 : Int64)) = (0 : Int32) then
      some (w, V)
    else
      (f_Mover_lowest l2).bind fun r2 =>
      if am_in r2 64 = true then
        if (lg_cmp ((am_shr (mv_hiding V) r2) &&& (1 : Int64)) (0 : Int64)) = (0 : Int32) then
          if am_in (((bd_men B) (r2).toNatClampNeg) &&& (7 : Int32)) 7 = true then
            j_Mover_fillChecks_92 fu gg w B V (l2 &&& (l2 - (1 : Int64))) x4 r2 (((bd_men B) (r2).toNatClampNeg) &&& (7 : Int32)) ((mv_aims V) ((((bd_men B) (r2).toNatClampNeg) &&& (7 : Int32))).toNatClampNeg)
          else none
        else
          j_Mover_fillChecks_92 fu gg w B V (l2 &&& (l2 - (1 : Int64))) x4 r2 (((bd_men B) (r2).toNatClampNeg) &&& (7 : Int32)) (-1 : Int64)
      else none
def l_Mover_fillChecks_28 (fu : Nat) (B : BdT) (V : MvT) : Nat → Int64 → Int32 → RwT → Option (RwT × MvT)
  | 0 => fun _ _ _ => none
  | n + 1 => b_Mover_fillChecks_28 fu B V (l_Mover_fillChecks_28 fu B V n)
def f_Mover_fillChecks (fu : Nat) (w : RwT) (B : BdT) (V : MvT) : Option (RwT × MvT) :=
  (f_Mover_takeAim fu B V).bind fun vg1 =>
  if am_in (bd_side B) 2 = true then
    l_Mover_fillChecks_28 fu B vg1 fu ((bd_held B) ((bd_side B)).toNatClampNeg) (0 : Int32) ((rw_told w), (0 : Int32))
  else none
def j_Solver_hasKey_159 (fu : Nat) (cl_hasKey : Int32 → Int32 → BdT → MvT → (Nat → RwT) → SoT → Option (Int32 × BdT × MvT × (Nat → RwT) × SoT)) (cl_refutation : Int32 → Int32 → BdT → MvT → (Nat → RwT) → SoT → Option (Int32 × BdT × MvT × (Nat → RwT) × SoT)) (gg : Int32 → BdT → MvT → (Nat → RwT) → SoT → Option (((Int32 × BdT × MvT × (Nat → RwT) × SoT)) ⊕ (Int32 × BdT × MvT × (Nat → RwT) × SoT))) (B : BdT) (V : MvT) (R : Nat → RwT) (S : SoT) (x1 : Int32) (x2 : Int32) (x4 : Int32) (x5 : Int32) (x6 : Int32) (s0 : Int32) : Option (((Int32 × BdT × MvT × (Nat → RwT) × SoT)) ⊕ (Int32 × BdT × MvT × (Nat → RwT) × SoT)) :=
  (f_Board_unmake B).bind fun bg14 =>
  if s0 = (0 : Int32) then
    gg (x5 + (1 : Int32)) bg14 V R S
  else
    some (.inl (x6, bg14, V, R, S))
def j_Solver_hasKey_173 (fu : Nat) (cl_hasKey : Int32 → Int32 → BdT → MvT → (Nat → RwT) → SoT → Option (Int32 × BdT × MvT × (Nat → RwT) × SoT)) (cl_refutation : Int32 → Int32 → BdT → MvT → (Nat → RwT) → SoT → Option (Int32 × BdT × MvT × (Nat → RwT) × SoT)) (B : BdT) (V : MvT) (R : Nat → RwT) (S : SoT) (x2 : Int32) (x6 : Int32) : Option (Int32 × BdT × MvT × (Nat → RwT) × SoT) :=
  if am_in x2 6 = true then
    some ((1 : Int32), B, V, R, ((upd (so_hints S) (x2).toNatClampNeg x6), (so_kind S), (so_goal S)))
  else none
def j_Solver_hasKey_158 (fu : Nat) (cl_hasKey : Int32 → Int32 → BdT → MvT → (Nat → RwT) → SoT → Option (Int32 × BdT × MvT × (Nat → RwT) × SoT)) (cl_refutation : Int32 → Int32 → BdT → MvT → (Nat → RwT) → SoT → Option (Int32 × BdT × MvT × (Nat → RwT) × SoT)) (gg : Int32 → BdT → MvT → (Nat → RwT) → SoT → Option (((Int32 × BdT × MvT × (Nat → RwT) × SoT)) ⊕ (Int32 × BdT × MvT × (Nat → RwT) × SoT))) (B : BdT) (V : MvT) (R : Nat → RwT) (S : SoT) (x1 : Int32) (x2 : Int32) (x4 : Int32) (x5 : Int32) (x6 : Int32) : Option (((Int32 × BdT × MvT × (Nat → RwT) × SoT)) ⊕ (Int32 × BdT × MvT × (Nat → RwT) × SoT)) :=
  j_Solver_hasKey_159 fu cl_hasKey cl_refutation gg B V R S x1 x2 x4 x5 x6 (0 : Int32)
def j_Solver_hasKey_154 (fu : Nat) (cl_hasKey : Int32 → Int32 → BdT → MvT → (Nat → RwT) → SoT → Option (Int32 × BdT × MvT × (Nat → RwT) × SoT)) (cl_refutation : Int32 → Int32 → BdT → MvT → (Nat → RwT) → SoT → Option (Int32 × BdT × MvT × (Nat → RwT) × SoT)) (gg : Int32 → BdT → MvT → (Nat → RwT) → SoT → Option (((Int32 × BdT × MvT × (Nat → RwT) × SoT)) ⊕ (Int32 × BdT × MvT × (Nat → RwT) × SoT))) (B : BdT) (V : MvT) (R : Nat → RwT) (S : SoT) (x1 : Int32) (x2 : Int32) (x4 : Int32) (x5 : Int32) (x6 : Int32) : Option (((Int32 × BdT × MvT × (Nat → RwT) × SoT)) ⊕ (Int32 × BdT × MvT × (Nat → RwT) × SoT)) :=
  j_Solver_hasKey_159 fu cl_hasKey cl_refutation gg B V R S x1 x2 x4 x5 x6 (1 : Int32)
def b_Solver_hasKey_83 (fu : Nat) (cl_hasKey : Int32 → Int32 → BdT → MvT → (Nat → RwT) → SoT → Option (Int32 × BdT × MvT × (Nat → RwT) × SoT)) (cl_refutation : Int32 → Int32 → BdT → MvT → (Nat → RwT) → SoT → Option (Int32 × BdT × MvT × (Nat → RwT) × SoT)) (x1 : Int32) (x2 : Int32) (x4 : Int32) (gg : Int32 → BdT → MvT → (Nat → RwT) → SoT → Option (((Int32 × BdT × MvT × (Nat → RwT) × SoT)) ⊕ (Int32 × BdT × MvT × (Nat → RwT) × SoT))) (x5 : Int32) (B : BdT) (V : MvT) (R : Nat → RwT) (S : SoT) : Option (((Int32 × BdT × MvT × (Nat → RwT) × SoT)) ⊕ (Int32 × BdT × MvT × (Nat → RwT) × SoT)) :=
  if (rw_count (R (x2).toNatClampNeg)) ≤ x5 then
    some (.inr ((0 : Int32), B, V, R, S))
  else
    if am_in x5 704 = true then
      (f_Board_make ((rw_told (R (x2).toNatClampNeg)) (x5).toNatClampNeg) B).bind fun bg5 =>
      (f_Board_isLegal fu bg5).bind fun r6 =>
      if r6 = (0 : Int32) then
        j_Solver_hasKey_158 fu cl_hasKey cl_refutation gg bg5 V R S x1 x2 x4 x5 ((rw_told (R (x2).toNatClampNeg)) (x5).toNatClampNeg)
      else
        if x4 = (0 : Int32) then
          (cl_refutation x1 (x2 + (1 : Int32)) bg5 V R S).bind fun (r7, bg8, vg9, rg10, sg11) =>
          if ¬ r7 = (-1 : Int32) then
            j_Solver_hasKey_158 fu cl_hasKey cl_refutation gg bg8 vg9 rg10 sg11 x1 x2 x4 x5 ((rw_told (R (x2).toNatClampNeg)) (x5).toNatClampNeg)
          else
            j_Solver_hasKey_154 fu cl_hasKey cl_refutation gg bg8 vg9 rg10 sg11 x1 x2 x4 x5 ((rw_told (R (x2).toNatClampNeg)) (x5).toNatClampNeg)
        else
          (f_Mover_isBeaten fu (so_goal S) bg5).bind fun (r12, bg13) =>
          if r12 = (0 : Int32) then
            j_Solver_hasKey_158 fu cl_hasKey cl_refutation gg bg13 V R S x1 x2 x4 x5 ((rw_told (R (x2).toNatClampNeg)) (x5).toNatClampNeg)
          else
            j_Solver_hasKey_154 fu cl_hasKey cl_refutation gg bg13 V R S x1 x2 x4 x5 ((rw_told (R (x2).toNatClampNeg)) (x5).toNatClampNeg)
    else none
def l_Solver_hasKey_83 (fu : Nat) (cl_hasKey : Int32 → Int32 → BdT → MvT → (Nat → RwT) → SoT → Option (Int32 × BdT × MvT × (Nat → RwT) × SoT)) (cl_refutation : Int32 → Int32 → BdT → MvT → (Nat → RwT) → SoT → Option (Int32 × BdT × MvT × (Nat → RwT) × SoT)) (x1 : Int32) (x2 : Int32) (x4 : Int32) : Nat → Int32 → BdT → MvT → (Nat → RwT) → SoT → Option (((Int32 × BdT × MvT × (Nat → RwT) × SoT)) ⊕ (Int32 × BdT × MvT × (Nat → RwT) × SoT))
  | 0 => fun _ _ _ _ _ => none
  | n + 1 => b_Solver_hasKey_83 fu cl_hasKey cl_refutation x1 x2 x4 (l_Solver_hasKey_83 fu cl_hasKey cl_refutation x1 x2 x4 n)
def j_Solver_hasKey_70 (fu : Nat) (cl_hasKey : Int32 → Int32 → BdT → MvT → (Nat → RwT) → SoT → Option (Int32 × BdT × MvT × (Nat → RwT) × SoT)) (cl_refutation : Int32 → Int32 → BdT → MvT → (Nat → RwT) → SoT → Option (Int32 × BdT × MvT × (Nat → RwT) × SoT)) (B : BdT) (V : MvT) (R : Nat → RwT) (S : SoT) (x1 : Int32) (x2 : Int32) (x4 : Int32) : Option (Int32 × BdT × MvT × (Nat → RwT) × SoT) :=
  if am_in x2 6 = true then
    (f_MoveRow_bringFirst fu ((so_hints S) (x2).toNatClampNeg) (R (x2).toNatClampNeg)).bind fun wg4 =>
    (l_Solver_hasKey_83 fu cl_hasKey cl_refutation x1 x2 x4 fu (0 : Int32) B V (va_up R (x2).toNatClampNeg wg4) S).bind fun z => match z with
    | .inl (x6_1, bz_1, vz_1, rz_1, sz_1) =>
      j_Solver_hasKey_173 fu cl_hasKey cl_refutation bz_1 vz_1 rz_1 sz_1 x2 x6_1
    | .inr z => some z
  else none
def j_Solver_hasKey_62 (fu : Nat) (cl_hasKey : Int32 → Int32 → BdT → MvT → (Nat → RwT) → SoT → Option (Int32 × BdT × MvT × (Nat → RwT) × SoT)) (cl_refutation : Int32 → Int32 → BdT → MvT → (Nat → RwT) → SoT → Option (Int32 × BdT × MvT × (Nat → RwT) × SoT)) (B : BdT) (V : MvT) (R : Nat → RwT) (S : SoT) (x1 : Int32) (x2 : Int32) (x4 : Int32) : Option (Int32 × BdT × MvT × (Nat → RwT) × SoT) :=
  (f_Mover_fill fu (R (x2).toNatClampNeg) B).bind fun wg3 =>
  j_Solver_hasKey_70 fu cl_hasKey cl_refutation B V (va_up R (x2).toNatClampNeg wg3) S x1 x2 x4
def j_Solver_hasKey_37 (fu : Nat) (cl_hasKey : Int32 → Int32 → BdT → MvT → (Nat → RwT) → SoT → Option (Int32 × BdT × MvT × (Nat → RwT) × SoT)) (cl_refutation : Int32 → Int32 → BdT → MvT → (Nat → RwT) → SoT → Option (Int32 × BdT × MvT × (Nat → RwT) × SoT)) (B : BdT) (V : MvT) (R : Nat → RwT) (S : SoT) (x1 : Int32) (x2 : Int32) (s0 : Int32) : Option (Int32 × BdT × MvT × (Nat → RwT) × SoT) :=
  if s0 = (0 : Int32) then
    j_Solver_hasKey_62 fu cl_hasKey cl_refutation B V R S x1 x2 s0
  else
    if ¬ (so_goal S) = (0 : Int32) then
      j_Solver_hasKey_62 fu cl_hasKey cl_refutation B V R S x1 x2 s0
    else
      (f_Mover_fillChecks fu (R (x2).toNatClampNeg) B V).bind fun (wg1, vg2) =>
      j_Solver_hasKey_70 fu cl_hasKey cl_refutation B vg2 (va_up R (x2).toNatClampNeg wg1) S x1 x2 s0
def j_Solver_hasKey_36 (fu : Nat) (cl_hasKey : Int32 → Int32 → BdT → MvT → (Nat → RwT) → SoT → Option (Int32 × BdT × MvT × (Nat → RwT) × SoT)) (cl_refutation : Int32 → Int32 → BdT → MvT → (Nat → RwT) → SoT → Option (Int32 × BdT × MvT × (Nat → RwT) × SoT)) (B : BdT) (V : MvT) (R : Nat → RwT) (S : SoT) (x1 : Int32) (x2 : Int32) : Option (Int32 × BdT × MvT × (Nat → RwT) × SoT) :=
  j_Solver_hasKey_37 fu cl_hasKey cl_refutation B V R S x1 x2 (0 : Int32)
def e_Solver_hasKey (fu : Nat) (cl_hasKey : Int32 → Int32 → BdT → MvT → (Nat → RwT) → SoT → Option (Int32 × BdT × MvT × (Nat → RwT) × SoT)) (cl_refutation : Int32 → Int32 → BdT → MvT → (Nat → RwT) → SoT → Option (Int32 × BdT × MvT × (Nat → RwT) × SoT)) (x1 : Int32) (x2 : Int32) (B : BdT) (V : MvT) (R : Nat → RwT) (S : SoT) : Option (Int32 × BdT × MvT × (Nat → RwT) × SoT) :=
  if x1 < (1 : Int32) then
    some ((0 : Int32), B, V, R, S)
  else
    if x2 < (6 : Int32) then
      if am_in x2 6 = true then
        if ¬ (so_kind S) = (0 : Int32) then
          j_Solver_hasKey_36 fu cl_hasKey cl_refutation B V R S x1 x2
        else
          if ¬ x1 = (1 : Int32) then
            j_Solver_hasKey_36 fu cl_hasKey cl_refutation B V R S x1 x2
          else
            j_Solver_hasKey_37 fu cl_hasKey cl_refutation B V R S x1 x2 (1 : Int32)
      else none
    else
      some ((0 : Int32), B, V, R, S)
def j_Solver_refutation_310 (fu : Nat) (cl_hasKey : Int32 → Int32 → BdT → MvT → (Nat → RwT) → SoT → Option (Int32 × BdT × MvT × (Nat → RwT) × SoT)) (cl_refutation : Int32 → Int32 → BdT → MvT → (Nat → RwT) → SoT → Option (Int32 × BdT × MvT × (Nat → RwT) × SoT)) (B : BdT) (V : MvT) (R : Nat → RwT) (S : SoT) (x4 : Int32) (s0 : Int32) : Option (Int32 × BdT × MvT × (Nat → RwT) × SoT) :=
  if ¬ x4 = (0 : Int32) then
    some ((-1 : Int32), B, V, R, S)
  else
    if s0 = (0 : Int32) then
      some ((-2 : Int32), B, V, R, S)
    else
      some ((-1 : Int32), B, V, R, S)
def j_Solver_refutation_270 (fu : Nat) (cl_hasKey : Int32 → Int32 → BdT → MvT → (Nat → RwT) → SoT → Option (Int32 × BdT × MvT × (Nat → RwT) × SoT)) (cl_refutation : Int32 → Int32 → BdT → MvT → (Nat → RwT) → SoT → Option (Int32 × BdT × MvT × (Nat → RwT) × SoT)) (gg : Int32 → Int64 → Int64 → Int32 → BdT → MvT → (Nat → RwT) → SoT → Option ((Int32 × BdT × MvT × (Nat → RwT) × SoT) ⊕ (Int32 × BdT × MvT × (Nat → RwT) × SoT))) (B : BdT) (V : MvT) (R : Nat → RwT) (S : SoT) (x1 : Int32) (x2 : Int32) (x4 : Int32) (l5 : Int64) (x7 : Int32) (l8 : Int64) (x10 : Int32) : Option ((Int32 × BdT × MvT × (Nat → RwT) × SoT) ⊕ (Int32 × BdT × MvT × (Nat → RwT) × SoT)) :=
  gg x4 l5 l8 (x10 + (1 : Int32)) B V R S
def j_Solver_refutation_236 (fu : Nat) (cl_hasKey : Int32 → Int32 → BdT → MvT → (Nat → RwT) → SoT → Option (Int32 × BdT × MvT × (Nat → RwT) × SoT)) (cl_refutation : Int32 → Int32 → BdT → MvT → (Nat → RwT) → SoT → Option (Int32 × BdT × MvT × (Nat → RwT) × SoT)) (B : BdT) (V : MvT) (R : Nat → RwT) (S : SoT) (x2 : Int32) (x13 : Int32) : Option (Int32 × BdT × MvT × (Nat → RwT) × SoT) :=
  if am_in x2 6 = true then
    some (x13, B, V, R, ((upd (so_hints S) (x2).toNatClampNeg x13), (so_kind S), (so_goal S)))
  else none
def j_Solver_refutation_262 (fu : Nat) (cl_hasKey : Int32 → Int32 → BdT → MvT → (Nat → RwT) → SoT → Option (Int32 × BdT × MvT × (Nat → RwT) × SoT)) (cl_refutation : Int32 → Int32 → BdT → MvT → (Nat → RwT) → SoT → Option (Int32 × BdT × MvT × (Nat → RwT) × SoT)) (gg : Int32 → Int32 → BdT → MvT → (Nat → RwT) → SoT → Option ((Int32 × BdT × MvT × (Nat → RwT) × SoT) ⊕ (Int32 × BdT × MvT × (Nat → RwT) × SoT))) (B : BdT) (V : MvT) (R : Nat → RwT) (S : SoT) (x1 : Int32) (x2 : Int32) (l5 : Int64) (x7 : Int32) (l8 : Int64) (x10 : Int32) (x12 : Int32) (s0 : Int32) : Option ((Int32 × BdT × MvT × (Nat → RwT) × SoT) ⊕ (Int32 × BdT × MvT × (Nat → RwT) × SoT)) :=
  gg s0 (x12 + (1 : Int32)) B V R S
def j_Solver_refutation_309 (fu : Nat) (cl_hasKey : Int32 → Int32 → BdT → MvT → (Nat → RwT) → SoT → Option (Int32 × BdT × MvT × (Nat → RwT) × SoT)) (cl_refutation : Int32 → Int32 → BdT → MvT → (Nat → RwT) → SoT → Option (Int32 × BdT × MvT × (Nat → RwT) × SoT)) (B : BdT) (V : MvT) (R : Nat → RwT) (S : SoT) (x4 : Int32) : Option (Int32 × BdT × MvT × (Nat → RwT) × SoT) :=
  j_Solver_refutation_310 fu cl_hasKey cl_refutation B V R S x4 (0 : Int32)
def j_Solver_refutation_302 (fu : Nat) (cl_hasKey : Int32 → Int32 → BdT → MvT → (Nat → RwT) → SoT → Option (Int32 × BdT × MvT × (Nat → RwT) × SoT)) (cl_refutation : Int32 → Int32 → BdT → MvT → (Nat → RwT) → SoT → Option (Int32 × BdT × MvT × (Nat → RwT) × SoT)) (B : BdT) (V : MvT) (R : Nat → RwT) (S : SoT) (x4 : Int32) (s0 : Int32) (s1 : Int32) : Option (Int32 × BdT × MvT × (Nat → RwT) × SoT) :=
  if ¬ s0 = s1 then
    j_Solver_refutation_309 fu cl_hasKey cl_refutation B V R S x4
  else
    j_Solver_refutation_310 fu cl_hasKey cl_refutation B V R S x4 (1 : Int32)
def j_Solver_refutation_257 (fu : Nat) (cl_hasKey : Int32 → Int32 → BdT → MvT → (Nat → RwT) → SoT → Option (Int32 × BdT × MvT × (Nat → RwT) × SoT)) (cl_refutation : Int32 → Int32 → BdT → MvT → (Nat → RwT) → SoT → Option (Int32 × BdT × MvT × (Nat → RwT) × SoT)) (gg : Int32 → Int32 → BdT → MvT → (Nat → RwT) → SoT → Option ((Int32 × BdT × MvT × (Nat → RwT) × SoT) ⊕ (Int32 × BdT × MvT × (Nat → RwT) × SoT))) (B : BdT) (V : MvT) (R : Nat → RwT) (S : SoT) (x1 : Int32) (x2 : Int32) (l5 : Int64) (x7 : Int32) (l8 : Int64) (x10 : Int32) (x12 : Int32) : Option ((Int32 × BdT × MvT × (Nat → RwT) × SoT) ⊕ (Int32 × BdT × MvT × (Nat → RwT) × SoT)) :=
  j_Solver_refutation_262 fu cl_hasKey cl_refutation gg B V R S x1 x2 l5 x7 l8 x10 x12 (1 : Int32)
def j_Solver_refutation_276 (fu : Nat) (cl_hasKey : Int32 → Int32 → BdT → MvT → (Nat → RwT) → SoT → Option (Int32 × BdT × MvT × (Nat → RwT) × SoT)) (cl_refutation : Int32 → Int32 → BdT → MvT → (Nat → RwT) → SoT → Option (Int32 × BdT × MvT × (Nat → RwT) × SoT)) (B : BdT) (V : MvT) (R : Nat → RwT) (S : SoT) (x4 : Int32) : Option (Int32 × BdT × MvT × (Nat → RwT) × SoT) :=
  if ¬ (so_kind S) = (0 : Int32) then
    j_Solver_refutation_309 fu cl_hasKey cl_refutation B V R S x4
  else
    (f_Board_inCheck fu B).bind fun r1 =>
    if ¬ (so_goal S) = (0 : Int32) then
      j_Solver_refutation_302 fu cl_hasKey cl_refutation B V R S x4 r1 (0 : Int32)
    else
      j_Solver_refutation_302 fu cl_hasKey cl_refutation B V R S x4 r1 (1 : Int32)
def j_Solver_refutation_247 (fu : Nat) (cl_hasKey : Int32 → Int32 → BdT → MvT → (Nat → RwT) → SoT → Option (Int32 × BdT × MvT × (Nat → RwT) × SoT)) (cl_refutation : Int32 → Int32 → BdT → MvT → (Nat → RwT) → SoT → Option (Int32 × BdT × MvT × (Nat → RwT) × SoT)) (gg : Int32 → Int32 → BdT → MvT → (Nat → RwT) → SoT → Option ((Int32 × BdT × MvT × (Nat → RwT) × SoT) ⊕ (Int32 × BdT × MvT × (Nat → RwT) × SoT))) (B : BdT) (V : MvT) (R : Nat → RwT) (S : SoT) (x1 : Int32) (x2 : Int32) (x4 : Int32) (l5 : Int64) (x7 : Int32) (l8 : Int64) (x10 : Int32) (x12 : Int32) (x14 : Int32) : Option ((Int32 × BdT × MvT × (Nat → RwT) × SoT) ⊕ (Int32 × BdT × MvT × (Nat → RwT) × SoT)) :=
  if ¬ x4 = (0 : Int32) then
    j_Solver_refutation_257 fu cl_hasKey cl_refutation gg B V R S x1 x2 l5 x7 l8 x10 x12
  else
    if x14 = (0 : Int32) then
      j_Solver_refutation_262 fu cl_hasKey cl_refutation gg B V R S x1 x2 l5 x7 l8 x10 x12 (0 : Int32)
    else
      j_Solver_refutation_257 fu cl_hasKey cl_refutation gg B V R S x1 x2 l5 x7 l8 x10 x12
def j_Solver_refutation_217 (fu : Nat) (cl_hasKey : Int32 → Int32 → BdT → MvT → (Nat → RwT) → SoT → Option (Int32 × BdT × MvT × (Nat → RwT) × SoT)) (cl_refutation : Int32 → Int32 → BdT → MvT → (Nat → RwT) → SoT → Option (Int32 × BdT × MvT × (Nat → RwT) × SoT)) (gg : Int32 → Int32 → BdT → MvT → (Nat → RwT) → SoT → Option ((Int32 × BdT × MvT × (Nat → RwT) × SoT) ⊕ (Int32 × BdT × MvT × (Nat → RwT) × SoT))) (B : BdT) (V : MvT) (R : Nat → RwT) (S : SoT) (x1 : Int32) (x2 : Int32) (x4 : Int32) (l5 : Int64) (x7 : Int32) (l8 : Int64) (x10 : Int32) (x12 : Int32) (x13 : Int32) (x14 : Int32) (s0 : Int32) : Option ((Int32 × BdT × MvT × (Nat → RwT) × SoT) ⊕ (Int32 × BdT × MvT × (Nat → RwT) × SoT)) :=
  (f_Board_unmake B).bind fun bg14 =>
  if x14 = (0 : Int32) then
    j_Solver_refutation_247 fu cl_hasKey cl_refutation gg bg14 V R S x1 x2 x4 l5 x7 l8 x10 x12 x14
  else
    if ¬ s0 = (0 : Int32) then
      j_Solver_refutation_247 fu cl_hasKey cl_refutation gg bg14 V R S x1 x2 x4 l5 x7 l8 x10 x12 x14
    else
      some (.inl (x13, bg14, V, R, S))
def j_Solver_refutation_216 (fu : Nat) (cl_hasKey : Int32 → Int32 → BdT → MvT → (Nat → RwT) → SoT → Option (Int32 × BdT × MvT × (Nat → RwT) × SoT)) (cl_refutation : Int32 → Int32 → BdT → MvT → (Nat → RwT) → SoT → Option (Int32 × BdT × MvT × (Nat → RwT) × SoT)) (gg : Int32 → Int32 → BdT → MvT → (Nat → RwT) → SoT → Option ((Int32 × BdT × MvT × (Nat → RwT) × SoT) ⊕ (Int32 × BdT × MvT × (Nat → RwT) × SoT))) (B : BdT) (V : MvT) (R : Nat → RwT) (S : SoT) (x1 : Int32) (x2 : Int32) (x4 : Int32) (l5 : Int64) (x7 : Int32) (l8 : Int64) (x10 : Int32) (x12 : Int32) (x13 : Int32) (x14 : Int32) : Option ((Int32 × BdT × MvT × (Nat → RwT) × SoT) ⊕ (Int32 × BdT × MvT × (Nat → RwT) × SoT)) :=
  j_Solver_refutation_217 fu cl_hasKey cl_refutation gg B V R S x1 x2 x4 l5 x7 l8 x10 x12 x13 x14 (0 : Int32)
def j_Solver_refutation_212 (fu : Nat) (cl_hasKey : Int32 → Int32 → BdT → MvT → (Nat → RwT) → SoT → Option (Int32 × BdT × MvT × (Nat → RwT) × SoT)) (cl_refutation : Int32 → Int32 → BdT → MvT → (Nat → RwT) → SoT → Option (Int32 × BdT × MvT × (Nat → RwT) × SoT)) (gg : Int32 → Int32 → BdT → MvT → (Nat → RwT) → SoT → Option ((Int32 × BdT × MvT × (Nat → RwT) × SoT) ⊕ (Int32 × BdT × MvT × (Nat → RwT) × SoT))) (B : BdT) (V : MvT) (R : Nat → RwT) (S : SoT) (x1 : Int32) (x2 : Int32) (x4 : Int32) (l5 : Int64) (x7 : Int32) (l8 : Int64) (x10 : Int32) (x12 : Int32) (x13 : Int32) (x14 : Int32) : Option ((Int32 × BdT × MvT × (Nat → RwT) × SoT) ⊕ (Int32 × BdT × MvT × (Nat → RwT) × SoT)) :=
  j_Solver_refutation_217 fu cl_hasKey cl_refutation gg B V R S x1 x2 x4 l5 x7 l8 x10 x12 x13 x14 (1 : Int32)
def j_Solver_refutation_199 (fu : Nat) (cl_hasKey : Int32 → Int32 → BdT → MvT → (Nat → RwT) → SoT → Option (Int32 × BdT × MvT × (Nat → RwT) × SoT)) (cl_refutation : Int32 → Int32 → BdT → MvT → (Nat → RwT) → SoT → Option (Int32 × BdT × MvT × (Nat → RwT) × SoT)) (gg : Int32 → Int32 → BdT → MvT → (Nat → RwT) → SoT → Option ((Int32 × BdT × MvT × (Nat → RwT) × SoT) ⊕ (Int32 × BdT × MvT × (Nat → RwT) × SoT))) (B : BdT) (V : MvT) (R : Nat → RwT) (S : SoT) (x1 : Int32) (x2 : Int32) (x4 : Int32) (l5 : Int64) (x7 : Int32) (l8 : Int64) (x10 : Int32) (x12 : Int32) (x13 : Int32) (x14 : Int32) : Option ((Int32 × BdT × MvT × (Nat → RwT) × SoT) ⊕ (Int32 × BdT × MvT × (Nat → RwT) × SoT)) :=
  (cl_hasKey (x1 - (1 : Int32)) (x2 + (1 : Int32)) B V R S).bind fun (r9, bg10, vg11, rg12, sg13) =>
  if r9 = (0 : Int32) then
    j_Solver_refutation_216 fu cl_hasKey cl_refutation gg bg10 vg11 rg12 sg13 x1 x2 x4 l5 x7 l8 x10 x12 x13 x14
  else
    j_Solver_refutation_212 fu cl_hasKey cl_refutation gg bg10 vg11 rg12 sg13 x1 x2 x4 l5 x7 l8 x10 x12 x13 x14
def b_Solver_refutation_136 (fu : Nat) (cl_hasKey : Int32 → Int32 → BdT → MvT → (Nat → RwT) → SoT → Option (Int32 × BdT × MvT × (Nat → RwT) × SoT)) (cl_refutation : Int32 → Int32 → BdT → MvT → (Nat → RwT) → SoT → Option (Int32 × BdT × MvT × (Nat → RwT) × SoT)) (x1 : Int32) (x2 : Int32) (l5 : Int64) (x7 : Int32) (l8 : Int64) (x10 : Int32) (gg : Int32 → Int32 → BdT → MvT → (Nat → RwT) → SoT → Option ((Int32 × BdT × MvT × (Nat → RwT) × SoT) ⊕ (Int32 × BdT × MvT × (Nat → RwT) × SoT))) (x4 : Int32) (x12 : Int32) (B : BdT) (V : MvT) (R : Nat → RwT) (S : SoT) : Option ((Int32 × BdT × MvT × (Nat → RwT) × SoT) ⊕ (Int32 × BdT × MvT × (Nat → RwT) × SoT)) :=
  if (rw_count (R (x2).toNatClampNeg)) ≤ x12 then
    some (.inr (x4, B, V, R, S))
  else
    if am_in x12 704 = true then
      (f_Board_make ((rw_told (R (x2).toNatClampNeg)) (x12).toNatClampNeg) B).bind fun bg5 =>
      (f_Board_isLegal fu bg5).bind fun r6 =>
      if r6 = (0 : Int32) then
        j_Solver_refutation_216 fu cl_hasKey cl_refutation gg bg5 V R S x1 x2 x4 l5 x7 l8 x10 x12 ((rw_told (R (x2).toNatClampNeg)) (x12).toNatClampNeg) r6
      else
        if ¬ (so_kind S) = (1 : Int32) then
          j_Solver_refutation_199 fu cl_hasKey cl_refutation gg bg5 V R S x1 x2 x4 l5 x7 l8 x10 x12 ((rw_told (R (x2).toNatClampNeg)) (x12).toNatClampNeg) r6
        else
          (f_Mover_isBeaten fu (so_goal S) bg5).bind fun (r7, bg8) =>
          if ¬ r7 = (0 : Int32) then
            j_Solver_refutation_212 fu cl_hasKey cl_refutation gg bg8 V R S x1 x2 x4 l5 x7 l8 x10 x12 ((rw_told (R (x2).toNatClampNeg)) (x12).toNatClampNeg) r6
          else
            j_Solver_refutation_199 fu cl_hasKey cl_refutation gg bg8 V R S x1 x2 x4 l5 x7 l8 x10 x12 ((rw_told (R (x2).toNatClampNeg)) (x12).toNatClampNeg) r6
    else none
def l_Solver_refutation_136 (fu : Nat) (cl_hasKey : Int32 → Int32 → BdT → MvT → (Nat → RwT) → SoT → Option (Int32 × BdT × MvT × (Nat → RwT) × SoT)) (cl_refutation : Int32 → Int32 → BdT → MvT → (Nat → RwT) → SoT → Option (Int32 × BdT × MvT × (Nat → RwT) × SoT)) (x1 : Int32) (x2 : Int32) (l5 : Int64) (x7 : Int32) (l8 : Int64) (x10 : Int32) : Nat → Int32 → Int32 → BdT → MvT → (Nat → RwT) → SoT → Option ((Int32 × BdT × MvT × (Nat → RwT) × SoT) ⊕ (Int32 × BdT × MvT × (Nat → RwT) × SoT))
  | 0 => fun _ _ _ _ _ _ => none
  | n + 1 => b_Solver_refutation_136 fu cl_hasKey cl_refutation x1 x2 l5 x7 l8 x10 (l_Solver_refutation_136 fu cl_hasKey cl_refutation x1 x2 l5 x7 l8 x10 n)
def j_Solver_refutation_96 (fu : Nat) (cl_hasKey : Int32 → Int32 → BdT → MvT → (Nat → RwT) → SoT → Option (Int32 × BdT × MvT × (Nat → RwT) × SoT)) (cl_refutation : Int32 → Int32 → BdT → MvT → (Nat → RwT) → SoT → Option (Int32 × BdT × MvT × (Nat → RwT) × SoT)) (gg : Int32 → Int64 → Int64 → Int32 → BdT → MvT → (Nat → RwT) → SoT → Option ((Int32 × BdT × MvT × (Nat → RwT) × SoT) ⊕ (Int32 × BdT × MvT × (Nat → RwT) × SoT))) (B : BdT) (V : MvT) (R : Nat → RwT) (S : SoT) (x1 : Int32) (x2 : Int32) (x4 : Int32) (l5 : Int64) (x7 : Int32) (x10 : Int32) (t0 : Int64) : Option ((Int32 × BdT × MvT × (Nat → RwT) × SoT) ⊕ (Int32 × BdT × MvT × (Nat → RwT) × SoT)) :=
  (f_Mover_lowest t0).bind fun r2 =>
  (f_Mover_fillFrom fu r2 (R (x2).toNatClampNeg) B).bind fun wg3 =>
  (f_MoveRow_bringFirst fu x7 ((va_up R (x2).toNatClampNeg wg3) (x2).toNatClampNeg)).bind fun wg4 =>
  (l_Solver_refutation_136 fu cl_hasKey cl_refutation x1 x2 (l5 &&& ((am_shl (1 : Int64) r2) ^^^ (-1 : Int64))) x7 (0 : Int64) x10 fu x4 (0 : Int32) B V (va_up (va_up R (x2).toNatClampNeg wg3) (x2).toNatClampNeg wg4) S).bind fun z => match z with
  | .inl (x13_1, bz_1, vz_1, rz_1, sz_1) =>
    some (.inl (x13_1, bz_1, vz_1, rz_1, sz_1))
  | .inr (x4_2, bz_2, vz_2, rz_2, sz_2) =>
    j_Solver_refutation_270 fu cl_hasKey cl_refutation gg bz_2 vz_2 rz_2 sz_2 x1 x2 x4_2 (l5 &&& ((am_shl (1 : Int64) r2) ^^^ (-1 : Int64))) x7 (0 : Int64) x10
def b_Solver_refutation_68 (fu : Nat) (cl_hasKey : Int32 → Int32 → BdT → MvT → (Nat → RwT) → SoT → Option (Int32 × BdT × MvT × (Nat → RwT) × SoT)) (cl_refutation : Int32 → Int32 → BdT → MvT → (Nat → RwT) → SoT → Option (Int32 × BdT × MvT × (Nat → RwT) × SoT)) (x1 : Int32) (x2 : Int32) (x7 : Int32) (gg : Int32 → Int64 → Int64 → Int32 → BdT → MvT → (Nat → RwT) → SoT → Option ((Int32 × BdT × MvT × (Nat → RwT) × SoT) ⊕ (Int32 × BdT × MvT × (Nat → RwT) × SoT))) (x4 : Int32) (l5 : Int64) (l8 : Int64) (x10 : Int32) (B : BdT) (V : MvT) (R : Nat → RwT) (S : SoT) : Option ((Int32 × BdT × MvT × (Nat → RwT) × SoT) ⊕ (Int32 × BdT × MvT × (Nat → RwT) × SoT)) :=
  if (64 : Int32) ≤ x10 then
    some (.inr (x4, B, V, R, S))
  else
    if (lg_cmp l5 (0 : Int64)) = (0 : Int32) then
      some (.inr (x4, B, V, R, S))
    else
      if (lg_cmp l8 (0 : Int64)) = (0 : Int32) then
        j_Solver_refutation_96 fu cl_hasKey cl_refutation gg B V R S x1 x2 x4 l5 x7 x10 l5
      else
        j_Solver_refutation_96 fu cl_hasKey cl_refutation gg B V R S x1 x2 x4 l5 x7 x10 l8
def l_Solver_refutation_68 (fu : Nat) (cl_hasKey : Int32 → Int32 → BdT → MvT → (Nat → RwT) → SoT → Option (Int32 × BdT × MvT × (Nat → RwT) × SoT)) (cl_refutation : Int32 → Int32 → BdT → MvT → (Nat → RwT) → SoT → Option (Int32 × BdT × MvT × (Nat → RwT) × SoT)) (x1 : Int32) (x2 : Int32) (x7 : Int32) : Nat → Int32 → Int64 → Int64 → Int32 → BdT → MvT → (Nat → RwT) → SoT → Option ((Int32 × BdT × MvT × (Nat → RwT) × SoT) ⊕ (Int32 × BdT × MvT × (Nat → RwT) × SoT))
  | 0 => fun _ _ _ _ _ _ _ _ => none
  | n + 1 => b_Solver_refutation_68 fu cl_hasKey cl_refutation x1 x2 x7 (l_Solver_refutation_68 fu cl_hasKey cl_refutation x1 x2 x7 n)
def j_Solver_refutation_63 (fu : Nat) (cl_hasKey : Int32 → Int32 → BdT → MvT → (Nat → RwT) → SoT → Option (Int32 × BdT × MvT × (Nat → RwT) × SoT)) (cl_refutation : Int32 → Int32 → BdT → MvT → (Nat → RwT) → SoT → Option (Int32 × BdT × MvT × (Nat → RwT) × SoT)) (B : BdT) (V : MvT) (R : Nat → RwT) (S : SoT) (x1 : Int32) (x2 : Int32) (x4 : Int32) (l5 : Int64) (x7 : Int32) (t0 : Int64) : Option (Int32 × BdT × MvT × (Nat → RwT) × SoT) :=
  (l_Solver_refutation_68 fu cl_hasKey cl_refutation x1 x2 x7 fu x4 l5 t0 (0 : Int32) B V R S).bind fun z => match z with
  | .inl (x13_1, bz_1, vz_1, rz_1, sz_1) =>
    j_Solver_refutation_236 fu cl_hasKey cl_refutation bz_1 vz_1 rz_1 sz_1 x2 x13_1
  | .inr (x4_2, bz_2, vz_2, rz_2, sz_2) =>
    j_Solver_refutation_276 fu cl_hasKey cl_refutation bz_2 vz_2 rz_2 sz_2 x4_2
def e_Solver_refutation (fu : Nat) (cl_hasKey : Int32 → Int32 → BdT → MvT → (Nat → RwT) → SoT → Option (Int32 × BdT × MvT × (Nat → RwT) × SoT)) (cl_refutation : Int32 → Int32 → BdT → MvT → (Nat → RwT) → SoT → Option (Int32 × BdT × MvT × (Nat → RwT) × SoT)) (x1 : Int32) (x2 : Int32) (B : BdT) (V : MvT) (R : Nat → RwT) (S : SoT) : Option (Int32 × BdT × MvT × (Nat → RwT) × SoT) :=
  if x2 < (6 : Int32) then
    if am_in x2 6 = true then
      if am_in (bd_side B) 2 = true then
        if am_in x2 6 = true then
          if ((so_hints S) (x2).toNatClampNeg) < (0 : Int32) then
            j_Solver_refutation_63 fu cl_hasKey cl_refutation B V R S x1 x2 (0 : Int32) ((bd_held B) ((bd_side B)).toNatClampNeg) ((so_hints S) (x2).toNatClampNeg) (0 : Int64)
          else
            j_Solver_refutation_63 fu cl_hasKey cl_refutation B V R S x1 x2 (0 : Int32) ((bd_held B) ((bd_side B)).toNatClampNeg) ((so_hints S) (x2).toNatClampNeg) (((bd_held B) ((bd_side B)).toNatClampNeg) &&& (am_shl (1 : Int64) (((so_hints S) (x2).toNatClampNeg) &&& (63 : Int32))))
        else none
      else none
    else none
  else
    some ((-2 : Int32), B, V, R, S)
def g_Solver (fu : Nat) : Nat → (Int32 → Int32 → BdT → MvT → (Nat → RwT) → SoT → Option (Int32 × BdT × MvT × (Nat → RwT) × SoT)) × (Int32 → Int32 → BdT → MvT → (Nat → RwT) → SoT → Option (Int32 × BdT × MvT × (Nat → RwT) × SoT))
  | 0 => (fun _ _ _ _ _ _ => none, fun _ _ _ _ _ _ => none)
  | d + 1 => (e_Solver_hasKey fu (g_Solver fu d).1 (g_Solver fu d).2, e_Solver_refutation fu (g_Solver fu d).1 (g_Solver fu d).2)
def f_Solver_hasKey (fu : Nat) : Int32 → Int32 → BdT → MvT → (Nat → RwT) → SoT → Option (Int32 × BdT × MvT × (Nat → RwT) × SoT) := (g_Solver fu 8).1
def f_Solver_refutation (fu : Nat) : Int32 → Int32 → BdT → MvT → (Nat → RwT) → SoT → Option (Int32 × BdT × MvT × (Nat → RwT) × SoT) := (g_Solver fu 8).2

def j_Mp_keys_85 (fu : Nat) (gg : Int32 → BdT → MvT → RwT → (Nat → RwT) → SoT → Option ((Int32 ⊕ Nat) × BdT × MvT × RwT × (Nat → RwT) × SoT)) (B : BdT) (V : MvT) (L : RwT) (F : RwT) (R : Nat → RwT) (S : SoT) (x3 : Int32) (x4 : Int32) : Option ((Int32 ⊕ Nat) × BdT × MvT × RwT × (Nat → RwT) × SoT) :=
  (f_Board_unmake B).bind fun bg9 =>
  gg (x4 + (1 : Int32)) bg9 V F R S
def b_Mp_keys_26 (fu : Nat) (L : RwT) (x3 : Int32) (gg : Int32 → BdT → MvT → RwT → (Nat → RwT) → SoT → Option ((Int32 ⊕ Nat) × BdT × MvT × RwT × (Nat → RwT) × SoT)) (x4 : Int32) (B : BdT) (V : MvT) (F : RwT) (R : Nat → RwT) (S : SoT) : Option ((Int32 ⊕ Nat) × BdT × MvT × RwT × (Nat → RwT) × SoT) :=
  if (rw_count L) ≤ x4 then
    some (.inl (rw_count F), B, V, F, R, S)
  else
    if am_in x4 704 = true then
      (f_Board_make ((rw_told L) (x4).toNatClampNeg) B).bind fun bg2 =>
      (f_Solver_refutation fu x3 (1 : Int32) bg2 V R S).bind fun (r3, bg4, vg5, rg6, sg7) =>
      if ¬ r3 = (-1 : Int32) then
        j_Mp_keys_85 fu gg bg4 vg5 L F rg6 sg7 x3 x4
      else
        if am_in x4 704 = true then
          (f_MoveRow_add ((rw_told L) (x4).toNatClampNeg) F).bind fun wg8 =>
          j_Mp_keys_85 fu gg bg4 vg5 L wg8 rg6 sg7 x3 x4
        else none
    else none
def l_Mp_keys_26 (fu : Nat) (L : RwT) (x3 : Int32) : Nat → Int32 → BdT → MvT → RwT → (Nat → RwT) → SoT → Option ((Int32 ⊕ Nat) × BdT × MvT × RwT × (Nat → RwT) × SoT)
  | 0 => fun _ _ _ _ _ _ => none
  | n + 1 => b_Mp_keys_26 fu L x3 (l_Mp_keys_26 fu L x3 n)
def f_Mp_keys (fu : Nat) (x1 : Int32) (x2 : Int32) (x3 : Int32) (B : BdT) (V : MvT) (L : RwT) (F : RwT) (R : Nat → RwT) (S : SoT) : Option ((Int32 ⊕ Nat) × BdT × MvT × RwT × (Nat → RwT) × SoT) :=
  (f_Mp_checkProblem x1 x2 x3).bind fun a0 => match a0 with
  | .inr a0 => some (.inr a0, B, V, F, R, S)
  | .inl _ =>
    (f_Solver_ask fu x1 x2 S).bind fun sg1 =>
    l_Mp_keys_26 fu L x3 fu (0 : Int32) B V ((rw_told F), (0 : Int32)) R sg1
def f_Mp_key (x1 : Int32) (F : RwT) : Option ((Int32 ⊕ Nat)) :=
  (f_MoveRow_has x1 F).bind fun r1 =>
  if ¬ r1 = (0 : Int32) then
    if am_in x1 704 = true then
      some (.inl ((rw_told F) (x1).toNatClampNeg))
    else none
  else
    some (.inr 2)
def b_Mp_least_18 (fu : Nat) (x3 : Int32) (gg : Int32 → BdT → MvT → (Nat → RwT) → SoT → Option ((Int32 ⊕ Nat) × BdT × MvT × (Nat → RwT) × SoT)) (x4 : Int32) (B : BdT) (V : MvT) (R : Nat → RwT) (S : SoT) : Option ((Int32 ⊕ Nat) × BdT × MvT × (Nat → RwT) × SoT) :=
  if x3 < x4 then
    some (.inl (0 : Int32), B, V, R, S)
  else
    (f_Solver_hasKey fu x4 (0 : Int32) B V R S).bind fun (r2, bg3, vg4, rg5, sg6) =>
    if r2 = (0 : Int32) then
      gg (x4 + (1 : Int32)) bg3 vg4 rg5 sg6
    else
      some (.inl x4, bg3, vg4, rg5, sg6)
def l_Mp_least_18 (fu : Nat) (x3 : Int32) : Nat → Int32 → BdT → MvT → (Nat → RwT) → SoT → Option ((Int32 ⊕ Nat) × BdT × MvT × (Nat → RwT) × SoT)
  | 0 => fun _ _ _ _ _ => none
  | n + 1 => b_Mp_least_18 fu x3 (l_Mp_least_18 fu x3 n)
def f_Mp_least (fu : Nat) (x1 : Int32) (x2 : Int32) (x3 : Int32) (B : BdT) (V : MvT) (R : Nat → RwT) (S : SoT) : Option ((Int32 ⊕ Nat) × BdT × MvT × (Nat → RwT) × SoT) :=
  (f_Mp_checkProblem x1 x2 x3).bind fun a0 => match a0 with
  | .inr a0 => some (.inr a0, B, V, R, S)
  | .inl _ =>
    (f_Solver_ask fu x1 x2 S).bind fun sg1 =>
    l_Mp_least_18 fu x3 fu (1 : Int32) B V R sg1
def f_Mp_refuted (fu : Nat) (x1 : Int32) (x2 : Int32) (x3 : Int32) (x4 : Int32) (B : BdT) (V : MvT) (L : RwT) (R : Nat → RwT) (S : SoT) : Option ((Int32 ⊕ Nat) × BdT × MvT × (Nat → RwT) × SoT) :=
  (f_Mp_checkProblem x1 x2 x3).bind fun a0 => match a0 with
  | .inr a0 => some (.inr a0, B, V, R, S)
  | .inl _ =>
    (f_MoveRow_has x4 L).bind fun r1 =>
    if ¬ r1 = (0 : Int32) then
      (f_Solver_ask fu x1 x2 S).bind fun sg2 =>
      if am_in x4 704 = true then
        (f_Board_make ((rw_told L) (x4).toNatClampNeg) B).bind fun bg3 =>
        (f_Solver_refutation fu x3 (1 : Int32) bg3 V R sg2).bind fun (r4, bg5, vg6, rg7, sg8) =>
        (f_Board_unmake bg5).bind fun bg9 =>
        some (.inl r4, bg9, vg6, rg7, sg8)
      else none
    else
      some (.inr 2, B, V, R, S)
def f_Mp_checkHelp (x0 : Int32) (x1 : Int32) : Option ((Unit ⊕ Nat)) :=
  (f_Mp_checkGoal x0).bind fun a0 => match a0 with
  | .inr a0 => some (.inr a0)
  | .inl _ =>
    if x1 < (1 : Int32) then
      some (.inr 1)
    else
      if x1 ≤ (2 : Int32) then
        some (.inl ())
      else
        some (.inr 1)
def j_HelpLines_knows_65 (P : HeT) (x1 : Int32) (x2 : Int32) (x4 : Int32) : Option (Int32 × HeT) :=
  some ((0 : Int32), ((he_path P), (he_kept P), x4, (1 : Int32), x1, ((2 : Int32) * x2), (0 : Int32)))
def j_HelpLines_knows_39 (P : HeT) (x1 : Int32) (x2 : Int32) (x3 : Int32) (x4 : Int32) (s0 : Int32) : Option (Int32 × HeT) :=
  if s0 = (0 : Int32) then
    j_HelpLines_knows_65 P x1 x2 x4
  else
    if x4 = (he_firstKept P) then
      some ((1 : Int32), P)
    else
      if x3 < (he_count P) then
        j_HelpLines_knows_65 P x1 x2 x4
      else
        some ((1 : Int32), P)
def j_HelpLines_knows_38 (P : HeT) (x1 : Int32) (x2 : Int32) (x3 : Int32) (x4 : Int32) : Option (Int32 × HeT) :=
  j_HelpLines_knows_39 P x1 x2 x3 x4 (0 : Int32)
def f_HelpLines_knows (x1 : Int32) (x2 : Int32) (x3 : Int32) (P : HeT) : Option (Int32 × HeT) :=
  if (he_known P) = (0 : Int32) then
    j_HelpLines_knows_38 P x1 x2 x3 (x3 - (x3 - x3 / (1024 : Int32) * (1024 : Int32)))
  else
    if ¬ (he_goal P) = x1 then
      j_HelpLines_knows_38 P x1 x2 x3 (x3 - (x3 - x3 / (1024 : Int32) * (1024 : Int32)))
    else
      if ¬ (he_plies P) = ((2 : Int32) * x2) then
        j_HelpLines_knows_38 P x1 x2 x3 (x3 - (x3 - x3 / (1024 : Int32) * (1024 : Int32)))
      else
        j_HelpLines_knows_39 P x1 x2 x3 (x3 - (x3 - x3 / (1024 : Int32) * (1024 : Int32))) (1 : Int32)
def j_HelpLines_keepPath_50 (fu : Nat) (P : HeT) : Option (HeT) :=
  some ((he_path P), (he_kept P), (he_firstKept P), (he_known P), (he_goal P), (he_plies P), ((he_count P) + (1 : Int32)))
def b_HelpLines_keepPath_23 (fu : Nat) (x1 : Int32) (gg : Int32 → HeT → Option ((HeT))) (x2 : Int32) (P : HeT) : Option ((HeT)) :=
  if (4 : Int32) ≤ x2 then
    some P
  else
    if am_in x2 4 = true then
      if am_in (((4 : Int32) * x1) + x2) 4096 = true then
        gg (x2 + (1 : Int32)) ((he_path P), (upd (he_kept P) ((((4 : Int32) * x1) + x2)).toNatClampNeg ((he_path P) (x2).toNatClampNeg)), (he_firstKept P), (he_known P), (he_goal P), (he_plies P), (he_count P))
      else none
    else none
def l_HelpLines_keepPath_23 (fu : Nat) (x1 : Int32) : Nat → Int32 → HeT → Option ((HeT))
  | 0 => fun _ _ => none
  | n + 1 => b_HelpLines_keepPath_23 fu x1 (l_HelpLines_keepPath_23 fu x1 n)
def f_HelpLines_keepPath (fu : Nat) (P : HeT) : Option (HeT) :=
  if ((he_count P) - (he_firstKept P)) < (0 : Int32) then
    j_HelpLines_keepPath_50 fu P
  else
    if (1024 : Int32) ≤ ((he_count P) - (he_firstKept P)) then
      j_HelpLines_keepPath_50 fu P
    else
      (l_HelpLines_keepPath_23 fu ((he_count P) - (he_firstKept P)) fu (0 : Int32) P).bind fun pz_1 =>
      j_HelpLines_keepPath_50 fu pz_1
def j_HelpLines_walk_148 (fu : Nat) (cl_walk : Int32 → BdT → MvT → (Nat → RwT) → HeT → Option (BdT × MvT × (Nat → RwT) × HeT)) (gg : Int32 → BdT → MvT → (Nat → RwT) → HeT → Option (BdT × MvT × (Nat → RwT) × HeT)) (B : BdT) (V : MvT) (R : Nat → RwT) (P : HeT) (x1 : Int32) (x3 : Int32) (x4 : Int32) : Option (BdT × MvT × (Nat → RwT) × HeT) :=
  (f_Board_unmake B).bind fun bg13 =>
  gg (x4 + (1 : Int32)) bg13 V R P
def b_HelpLines_walk_70 (fu : Nat) (cl_walk : Int32 → BdT → MvT → (Nat → RwT) → HeT → Option (BdT × MvT × (Nat → RwT) × HeT)) (x1 : Int32) (x3 : Int32) (gg : Int32 → BdT → MvT → (Nat → RwT) → HeT → Option (BdT × MvT × (Nat → RwT) × HeT)) (x4 : Int32) (B : BdT) (V : MvT) (R : Nat → RwT) (P : HeT) : Option (BdT × MvT × (Nat → RwT) × HeT) :=
  if (rw_count (R (x1).toNatClampNeg)) ≤ x4 then
    some (B, V, R, P)
  else
    if am_in x4 704 = true then
      if am_in x1 4 = true then
        if am_in x4 704 = true then
          (f_Board_make ((rw_told (R (x1).toNatClampNeg)) (x4).toNatClampNeg) B).bind fun bg4 =>
          (f_Board_isLegal fu bg4).bind fun r5 =>
          if r5 = (0 : Int32) then
            j_HelpLines_walk_148 fu cl_walk gg bg4 V R ((upd (he_path P) (x1).toNatClampNeg ((rw_told (R (x1).toNatClampNeg)) (x4).toNatClampNeg)), (he_kept P), (he_firstKept P), (he_known P), (he_goal P), (he_plies P), (he_count P)) x1 x3 x4
          else
            if ¬ x3 = (0 : Int32) then
              (f_Mover_isBeaten fu (he_goal P) bg4).bind fun (r6, bg7) =>
              if r6 = (0 : Int32) then
                j_HelpLines_walk_148 fu cl_walk gg bg7 V R ((upd (he_path P) (x1).toNatClampNeg ((rw_told (R (x1).toNatClampNeg)) (x4).toNatClampNeg)), (he_kept P), (he_firstKept P), (he_known P), (he_goal P), (he_plies P), (he_count P)) x1 x3 x4
              else
                (f_HelpLines_keepPath fu ((upd (he_path P) (x1).toNatClampNeg ((rw_told (R (x1).toNatClampNeg)) (x4).toNatClampNeg)), (he_kept P), (he_firstKept P), (he_known P), (he_goal P), (he_plies P), (he_count P))).bind fun pg8 =>
                j_HelpLines_walk_148 fu cl_walk gg bg7 V R pg8 x1 x3 x4
            else
              (cl_walk (x1 + (1 : Int32)) bg4 V R ((upd (he_path P) (x1).toNatClampNeg ((rw_told (R (x1).toNatClampNeg)) (x4).toNatClampNeg)), (he_kept P), (he_firstKept P), (he_known P), (he_goal P), (he_plies P), (he_count P))).bind fun (bg9, vg10, rg11, pg12) =>
              j_HelpLines_walk_148 fu cl_walk gg bg9 vg10 rg11 pg12 x1 x3 x4
        else none
      else none
    else none
def l_HelpLines_walk_70 (fu : Nat) (cl_walk : Int32 → BdT → MvT → (Nat → RwT) → HeT → Option (BdT × MvT × (Nat → RwT) × HeT)) (x1 : Int32) (x3 : Int32) : Nat → Int32 → BdT → MvT → (Nat → RwT) → HeT → Option (BdT × MvT × (Nat → RwT) × HeT)
  | 0 => fun _ _ _ _ _ => none
  | n + 1 => b_HelpLines_walk_70 fu cl_walk x1 x3 (l_HelpLines_walk_70 fu cl_walk x1 x3 n)
def j_HelpLines_walk_67 (fu : Nat) (cl_walk : Int32 → BdT → MvT → (Nat → RwT) → HeT → Option (BdT × MvT × (Nat → RwT) × HeT)) (B : BdT) (V : MvT) (R : Nat → RwT) (P : HeT) (x1 : Int32) (x3 : Int32) : Option (BdT × MvT × (Nat → RwT) × HeT) :=
  l_HelpLines_walk_70 fu cl_walk x1 x3 fu (0 : Int32) B V R P
def j_HelpLines_walk_59 (fu : Nat) (cl_walk : Int32 → BdT → MvT → (Nat → RwT) → HeT → Option (BdT × MvT × (Nat → RwT) × HeT)) (B : BdT) (V : MvT) (R : Nat → RwT) (P : HeT) (x1 : Int32) (x3 : Int32) : Option (BdT × MvT × (Nat → RwT) × HeT) :=
  (f_Mover_fill fu (R (x1).toNatClampNeg) B).bind fun wg3 =>
  j_HelpLines_walk_67 fu cl_walk B V (va_up R (x1).toNatClampNeg wg3) P x1 x3
def j_HelpLines_walk_36 (fu : Nat) (cl_walk : Int32 → BdT → MvT → (Nat → RwT) → HeT → Option (BdT × MvT × (Nat → RwT) × HeT)) (B : BdT) (V : MvT) (R : Nat → RwT) (P : HeT) (x1 : Int32) (s0 : Int32) : Option (BdT × MvT × (Nat → RwT) × HeT) :=
  if s0 = (0 : Int32) then
    j_HelpLines_walk_59 fu cl_walk B V R P x1 s0
  else
    if ¬ (he_goal P) = (0 : Int32) then
      j_HelpLines_walk_59 fu cl_walk B V R P x1 s0
    else
      (f_Mover_fillChecks fu (R (x1).toNatClampNeg) B V).bind fun (wg1, vg2) =>
      j_HelpLines_walk_67 fu cl_walk B vg2 (va_up R (x1).toNatClampNeg wg1) P x1 s0
def e_HelpLines_walk (fu : Nat) (cl_walk : Int32 → BdT → MvT → (Nat → RwT) → HeT → Option (BdT × MvT × (Nat → RwT) × HeT)) (x1 : Int32) (B : BdT) (V : MvT) (R : Nat → RwT) (P : HeT) : Option (BdT × MvT × (Nat → RwT) × HeT) :=
  if (he_plies P) ≤ x1 then
    some (B, V, R, P)
  else
    if x1 < (4 : Int32) then
      if am_in x1 6 = true then
        if ¬ x1 = ((he_plies P) - (1 : Int32)) then
          j_HelpLines_walk_36 fu cl_walk B V R P x1 (0 : Int32)
        else
          j_HelpLines_walk_36 fu cl_walk B V R P x1 (1 : Int32)
      else none
    else
      some (B, V, R, P)
def g_HelpLines (fu : Nat) : Nat → (Int32 → BdT → MvT → (Nat → RwT) → HeT → Option (BdT × MvT × (Nat → RwT) × HeT))
  | 0 => fun _ _ _ _ _ => none
  | d + 1 => e_HelpLines_walk fu (g_HelpLines fu d)
def f_HelpLines_walk (fu : Nat) : Int32 → BdT → MvT → (Nat → RwT) → HeT → Option (BdT × MvT × (Nat → RwT) × HeT) := (g_HelpLines fu 8)

def f_Mp_lines (fu : Nat) (x1 : Int32) (x2 : Int32) (B : BdT) (V : MvT) (R : Nat → RwT) (P : HeT) : Option ((Int32 ⊕ Nat) × BdT × MvT × (Nat → RwT) × HeT) :=
  (f_Mp_checkHelp x1 x2).bind fun a0 => match a0 with
  | .inr a0 => some (.inr a0, B, V, R, P)
  | .inl _ =>
    (f_HelpLines_knows x1 x2 (0 : Int32) P).bind fun (r1, pg2) =>
    if ¬ r1 = (0 : Int32) then
      some (.inl (he_count pg2), B, V, R, pg2)
    else
      (f_HelpLines_walk fu (0 : Int32) B V R pg2).bind fun (bg3, vg4, rg5, pg6) =>
      some (.inl (he_count pg6), bg3, vg4, rg5, pg6)
def f_HelpLines_moveOf (x1 : Int32) (x2 : Int32) (P : HeT) : Option (Int32) :=
  if (((4 : Int32) * (x1 - (he_firstKept P))) + x2) < (0 : Int32) then
    some (-1 : Int32)
  else
    if (4096 : Int32) ≤ (((4 : Int32) * (x1 - (he_firstKept P))) + x2) then
      some (-1 : Int32)
    else
      if am_in (((4 : Int32) * (x1 - (he_firstKept P))) + x2) 4096 = true then
        some ((he_kept P) ((((4 : Int32) * (x1 - (he_firstKept P))) + x2)).toNatClampNeg)
      else none
def j_Mp_line_53 (fu : Nat) (B : BdT) (V : MvT) (R : Nat → RwT) (P : HeT) (x3 : Int32) (x4 : Int32) : Option ((Int32 ⊕ Nat) × BdT × MvT × (Nat → RwT) × HeT) :=
  if x3 < (he_count P) then
    (f_HelpLines_moveOf x3 x4 P).bind fun r7 =>
    some (.inl r7, B, V, R, P)
  else
    some (.inr 2, B, V, R, P)
def f_Mp_line (fu : Nat) (x1 : Int32) (x2 : Int32) (x3 : Int32) (x4 : Int32) (B : BdT) (V : MvT) (R : Nat → RwT) (P : HeT) : Option ((Int32 ⊕ Nat) × BdT × MvT × (Nat → RwT) × HeT) :=
  (f_Mp_checkHelp x1 x2).bind fun a0 => match a0 with
  | .inr a0 => some (.inr a0, B, V, R, P)
  | .inl _ =>
    if x3 < (0 : Int32) then
      some (.inr 2, B, V, R, P)
    else
      if x4 < (0 : Int32) then
        some (.inr 2, B, V, R, P)
      else
        if x4 < ((2 : Int32) * x2) then
          (f_HelpLines_knows x1 x2 x3 P).bind fun (r1, pg2) =>
          if ¬ r1 = (0 : Int32) then
            j_Mp_line_53 fu B V R pg2 x3 x4
          else
            (f_HelpLines_walk fu (0 : Int32) B V R pg2).bind fun (bg3, vg4, rg5, pg6) =>
            j_Mp_line_53 fu bg3 vg4 rg5 pg6 x3 x4
        else
          some (.inr 2, B, V, R, P)
def j_Mp_stepTable_103 (fu : Nat) (gg : Int32 → NxT → Option (NxT)) (W : NxT) (x1 : Int32) : Option (NxT) :=
  gg (x1 + (1 : Int32)) W
def j_Mp_stepTable_96 (fu : Nat) (gg : Int32 → NxT → Option ((NxT))) (W : NxT) (x1 : Int32) (x2 : Int32) (s1 : Int32) (s2 : Int32) : Option ((NxT)) :=
  if am_in s1 1024 = true then
    gg (x2 + (1 : Int32)) (upd W (s1).toNatClampNeg s2)
  else none
def j_Mp_stepTable_71 (fu : Nat) (gg : Int32 → NxT → Option ((NxT))) (W : NxT) (x1 : Int32) (x2 : Int32) (x3 : Int32) (x4 : Int32) (s0 : Int32) : Option ((NxT)) :=
  if s0 = (0 : Int32) then
    j_Mp_stepTable_96 fu gg W x1 x2 (((64 : Int32) * x1) + x2) (-1 : Int32)
  else
    j_Mp_stepTable_96 fu gg W x1 x2 (((64 : Int32) * x1) + x2) (x3 + ((8 : Int32) * x4))
def j_Mp_stepTable_70 (fu : Nat) (gg : Int32 → NxT → Option ((NxT))) (W : NxT) (x1 : Int32) (x2 : Int32) (x3 : Int32) (x4 : Int32) : Option ((NxT)) :=
  j_Mp_stepTable_71 fu gg W x1 x2 x3 x4 (0 : Int32)
def b_Mp_stepTable_16 (fu : Nat) (x1 : Int32) (gg : Int32 → NxT → Option ((NxT))) (x2 : Int32) (W : NxT) : Option ((NxT)) :=
  if (64 : Int32) ≤ x2 then
    some W
  else
    if am_in x1 16 = true then
      if am_in x1 16 = true then
        if ((x2 &&& (7 : Int32)) + (tb_FILE_STEP (x1).toNatClampNeg)) < (0 : Int32) then
          j_Mp_stepTable_70 fu gg W x1 x2 ((x2 &&& (7 : Int32)) + (tb_FILE_STEP (x1).toNatClampNeg)) ((x2 >>> ((3 : Int32) &&& 31)) + (tb_RANK_STEP (x1).toNatClampNeg))
        else
          if (8 : Int32) ≤ ((x2 &&& (7 : Int32)) + (tb_FILE_STEP (x1).toNatClampNeg)) then
            j_Mp_stepTable_70 fu gg W x1 x2 ((x2 &&& (7 : Int32)) + (tb_FILE_STEP (x1).toNatClampNeg)) ((x2 >>> ((3 : Int32) &&& 31)) + (tb_RANK_STEP (x1).toNatClampNeg))
          else
            if ((x2 >>> ((3 : Int32) &&& 31)) + (tb_RANK_STEP (x1).toNatClampNeg)) < (0 : Int32) then
              j_Mp_stepTable_70 fu gg W x1 x2 ((x2 &&& (7 : Int32)) + (tb_FILE_STEP (x1).toNatClampNeg)) ((x2 >>> ((3 : Int32) &&& 31)) + (tb_RANK_STEP (x1).toNatClampNeg))
            else
              if (8 : Int32) ≤ ((x2 >>> ((3 : Int32) &&& 31)) + (tb_RANK_STEP (x1).toNatClampNeg)) then
                j_Mp_stepTable_70 fu gg W x1 x2 ((x2 &&& (7 : Int32)) + (tb_FILE_STEP (x1).toNatClampNeg)) ((x2 >>> ((3 : Int32) &&& 31)) + (tb_RANK_STEP (x1).toNatClampNeg))
              else
                j_Mp_stepTable_71 fu gg W x1 x2 ((x2 &&& (7 : Int32)) + (tb_FILE_STEP (x1).toNatClampNeg)) ((x2 >>> ((3 : Int32) &&& 31)) + (tb_RANK_STEP (x1).toNatClampNeg)) (1 : Int32)
      else none
    else none
def l_Mp_stepTable_16 (fu : Nat) (x1 : Int32) : Nat → Int32 → NxT → Option ((NxT))
  | 0 => fun _ _ => none
  | n + 1 => b_Mp_stepTable_16 fu x1 (l_Mp_stepTable_16 fu x1 n)
def b_Mp_stepTable_8 (fu : Nat) (gg : Int32 → NxT → Option (NxT)) (x1 : Int32) (W : NxT) : Option (NxT) :=
  if (16 : Int32) ≤ x1 then
    some W
  else
    (l_Mp_stepTable_16 fu x1 fu (0 : Int32) W).bind fun wz_1 =>
    j_Mp_stepTable_103 fu gg wz_1 x1
def l_Mp_stepTable_8 (fu : Nat) : Nat → Int32 → NxT → Option (NxT)
  | 0 => fun _ _ => none
  | n + 1 => b_Mp_stepTable_8 fu (l_Mp_stepTable_8 fu n)
def f_Mp_stepTable (fu : Nat) (W : NxT) : Option (NxT) :=
  l_Mp_stepTable_8 fu fu (0 : Int32) W
def b_Board_setUp_6 (fu : Nat) (gg : Int32 → BdT → Option ((BdT))) (x1 : Int32) (b : BdT) : Option ((BdT)) :=
  if (8 : Int32) ≤ x1 then
    some b
  else
    if am_in x1 8 = true then
      (f_Board_put x1 (tb_FIRST_RANK (x1).toNatClampNeg) b).bind fun bg2 =>
      (f_Board_put (x1 + (8 : Int32)) (1 : Int32) bg2).bind fun bg3 =>
      (f_Board_put (x1 + (48 : Int32)) (9 : Int32) bg3).bind fun bg4 =>
      if am_in x1 8 = true then
        (f_Board_put (x1 + (56 : Int32)) ((tb_FIRST_RANK (x1).toNatClampNeg) + (8 : Int32)) bg4).bind fun bg5 =>
        gg (x1 + (1 : Int32)) bg5
      else none
    else none
def l_Board_setUp_6 (fu : Nat) : Nat → Int32 → BdT → Option ((BdT))
  | 0 => fun _ _ => none
  | n + 1 => b_Board_setUp_6 fu (l_Board_setUp_6 fu n)
def j_Board_setUp_63 (fu : Nat) (b : BdT) : Option (BdT) :=
  if am_in (0 : Int32) 2 = true then
    if am_in (1 : Int32) 2 = true then
      some ((bd_men b), (bd_held b), (upd (upd (bd_kings b) ((0 : Int32)).toNatClampNeg (4 : Int32)) ((1 : Int32)).toNatClampNeg (60 : Int32)), (bd_side b), (15 : Int32), (bd_passed b), (bd_depth b), (bd_made b), (bd_taken b), (bd_takenAt b), (bd_rightsBefore b), (bd_passedBefore b))
    else none
  else none
def f_Board_setUp (fu : Nat) (b : BdT) : Option (BdT) :=
  (f_Board_clear fu b).bind fun bg1 =>
  (l_Board_setUp_6 fu fu (0 : Int32) bg1).bind fun bz_1 =>
  j_Board_setUp_63 fu bz_1
def xm : am_C := .inl (0, [.ref 102, .ref 113, .ref 104, .ref 114, .ref 123, .ref 125, .ref 127, .ref 142, .ref 144])
def xa (c0 : am_C) (T : TxT) (D : BdT) (r : RdT) (B : BdT) (tl : List am_C) : List am_C :=
  c0 ::
  .inr (.int, 1024, .inl tb_next) ::
  .inl (1, [.ref 103, .int (tx_length T)]) ::
  .inr (.char, 100, .inl (tx_chars T)) ::
  .inl (3, [.ref 101, .ref 105, .ref 106, .ref 107, .int (bd_side D), .int (bd_rights D), .int (bd_passed D), .int (bd_depth D), .ref 108, .ref 109, .ref 110, .ref 111, .ref 112]) ::
  .inr (.int, 64, .inl (bd_men D)) ::
  .inr (.long, 2, .inr (.inl (bd_held D))) ::
  .inr (.int, 2, .inl (bd_kings D)) ::
  .inr (.int, 16, .inl (bd_made D)) ::
  .inr (.int, 16, .inl (bd_taken D)) ::
  .inr (.int, 16, .inl (bd_takenAt D)) ::
  .inr (.int, 16, .inl (bd_rightsBefore D)) ::
  .inr (.int, 16, .inl (bd_passedBefore D)) ::
  .inl (2, [.ref 102, .ref 104, .int r]) ::
  .inl (3, [.ref 101, .ref 115, .ref 116, .ref 117, .int (bd_side B), .int (bd_rights B), .int (bd_passed B), .int (bd_depth B), .ref 118, .ref 119, .ref 120, .ref 121, .ref 122]) ::
  .inr (.int, 64, .inl (bd_men B)) ::
  .inr (.long, 2, .inr (.inl (bd_held B))) ::
  .inr (.int, 2, .inl (bd_kings B)) ::
  .inr (.int, 16, .inl (bd_made B)) ::
  .inr (.int, 16, .inl (bd_taken B)) ::
  .inr (.int, 16, .inl (bd_takenAt B)) ::
  .inr (.int, 16, .inl (bd_rightsBefore B)) ::
  .inr (.int, 16, .inl (bd_passedBefore B)) :: tl
def xb (V : MvT) (L F : RwT) (R : Nat → RwT) (S : SoT) (P : HeT) : List am_C :=
  [.inl (4, [.ref 114, .ref 115, .ref 124, .long (mv_hiding V)]),
  .inr (.long, 7, .inr (.inl (mv_aims V))),
  .inl (5, [.ref 126, .int (rw_count L)]),
  .inr (.int, 704, .inl (rw_told L)),
  .inl (5, [.ref 128, .int (rw_count F)]),
  .inr (.int, 704, .inl (rw_told F)),
  .inr (.object "MateProblems$MoveRow", 6, .inr (.inr (.inr (.inr (va_up (va_up (va_up (va_up (va_up (va_up (fun _ => none) 0 (some 130)) 1 (some 132)) 2 (some 134)) 3 (some 136)) 4 (some 138)) 5 (some 140)))))),
  .inl (5, [.ref 131, .int (rw_count (R 0))]),
  .inr (.int, 704, .inl (rw_told (R 0))),
  .inl (5, [.ref 133, .int (rw_count (R 1))]),
  .inr (.int, 704, .inl (rw_told (R 1))),
  .inl (5, [.ref 135, .int (rw_count (R 2))]),
  .inr (.int, 704, .inl (rw_told (R 2))),
  .inl (5, [.ref 137, .int (rw_count (R 3))]),
  .inr (.int, 704, .inl (rw_told (R 3))),
  .inl (5, [.ref 139, .int (rw_count (R 4))]),
  .inr (.int, 704, .inl (rw_told (R 4))),
  .inl (5, [.ref 141, .int (rw_count (R 5))]),
  .inr (.int, 704, .inl (rw_told (R 5))),
  .inl (6, [.ref 114, .ref 123, .ref 129, .ref 143, .int (so_kind S), .int (so_goal S)]),
  .inr (.int, 6, .inl (so_hints S)),
  .inl (7, [.ref 114, .ref 123, .ref 129, .ref 145, .ref 146, .int (he_firstKept P), .int (he_known P), .int (he_goal P), .int (he_plies P), .int (he_count P)]),
  .inr (.int, 4, .inl (he_path P)),
  .inr (.int, 4096, .inl (he_kept P))]
