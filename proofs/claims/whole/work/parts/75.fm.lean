def f_M_thrown (E : ThT) : Option (Int32) :=
  some E
def f_M_kind (x0 : Int32) : Option (Int32) :=
  some (x0 &&& (7 : Int32))
def f_M_isOf (x1 : Int32) (x2 : Int32) (Q : PoT) : Option (Int32) :=
  if am_in x1 64 = true then
    if ((po_men Q) (x1).toNatClampNeg) = (0 : Int32) then
      some (0 : Int32)
    else
      if am_in x1 64 = true then
        if ¬ (((po_men Q) (x1).toNatClampNeg) >>> ((3 : Int32) &&& 31)) = x2 then
          some (0 : Int32)
        else
          some (1 : Int32)
      else none
  else none
def f_M_isOn (x0 : Int32) (x1 : Int32) : Option (Int32) :=
  if x0 < (0 : Int32) then
    some (0 : Int32)
  else
    if (8 : Int32) ≤ x0 then
      some (0 : Int32)
    else
      if x1 < (0 : Int32) then
        some (0 : Int32)
      else
        if (8 : Int32) ≤ x1 then
          some (0 : Int32)
        else
          some (1 : Int32)
def f_M_step (x0 : Int32) (x1 : Int32) (x2 : Int32) : Option (Int32) :=
  (f_M_isOn ((x0 &&& (7 : Int32)) + x1) ((x0 >>> ((3 : Int32) &&& 31)) + x2)).bind fun r1 =>
  if r1 = (0 : Int32) then
    some (-1 : Int32)
  else
    some (((8 : Int32) * ((x0 >>> ((3 : Int32) &&& 31)) + x2)) + ((x0 &&& (7 : Int32)) + x1))
def f_M_bit (x0 : Int32) : Option (Int64) :=
  if (0 : Int32) ≤ x0 then
    some (am_shl (1 : Int64) x0)
  else
    some (0 : Int64)
def b_M_firstMan_8 (fu : Nat) (Q : PoT) (x2 : Int32) (x3 : Int32) (gg : Int32 → Option ((Int32))) (x4 : Int32) : Option ((Int32)) :=
  if x4 < (0 : Int32) then
    some x4
  else
    if am_in x4 64 = true then
      if ¬ ((po_men Q) (x4).toNatClampNeg) = (0 : Int32) then
        some x4
      else
        (f_M_step x4 x2 x3).bind fun r2 =>
        gg r2
    else none
def l_M_firstMan_8 (fu : Nat) (Q : PoT) (x2 : Int32) (x3 : Int32) : Nat → Int32 → Option ((Int32))
  | 0 => fun _ => none
  | n + 1 => b_M_firstMan_8 fu Q x2 x3 (l_M_firstMan_8 fu Q x2 x3 n)
def j_M_firstMan_35 (fu : Nat) (Q : PoT) (x4 : Int32) : Option (Int32) :=
  if (0 : Int32) ≤ x4 then
    if am_in x4 64 = true then
      some ((po_men Q) (x4).toNatClampNeg)
    else none
  else
    some (0 : Int32)
def f_M_firstMan (fu : Nat) (x1 : Int32) (x2 : Int32) (x3 : Int32) (Q : PoT) : Option (Int32) :=
  (f_M_step x1 x2 x3).bind fun r1 =>
  (l_M_firstMan_8 fu Q x2 x3 fu r1).bind fun x4_1 =>
  j_M_firstMan_35 fu Q x4_1
def f_M_hasMan (x1 : Int32) (x2 : Int32) (Q : PoT) : Option (Int32) :=
  if x1 < (0 : Int32) then
    some (0 : Int32)
  else
    if am_in x1 64 = true then
      if ¬ ((po_men Q) (x1).toNatClampNeg) = x2 then
        some (0 : Int32)
      else
        some (1 : Int32)
    else none
def j_M_isAttacked_187 (fu : Nat) (gg : Int32 → Option (Int32)) (Q : PoT) (x1 : Int32) (x3 : Int32) (x5 : Int32) : Option (Int32) :=
  gg (x5 + (1 : Int32))
def j_M_isAttacked_181 (fu : Nat) (gg : Int32 → Option (((Unit)) ⊕ (Int32))) (Q : PoT) (x1 : Int32) (x3 : Int32) (x5 : Int32) (x6 : Int32) : Option (((Unit)) ⊕ (Int32)) :=
  gg (x6 + (1 : Int32))
def j_M_isAttacked_155 (fu : Nat) (gg : Int32 → Option (((Unit)) ⊕ (Int32))) (Q : PoT) (x1 : Int32) (x3 : Int32) (x5 : Int32) (x6 : Int32) (s0 : Int32) (s1 : Int32) : Option (((Unit)) ⊕ (Int32)) :=
  if s0 = (s1 + x3) then
    some (.inr (1 : Int32))
  else
    (f_M_step x1 x5 x6).bind fun r8 =>
    (f_M_hasMan r8 ((6 : Int32) + x3) Q).bind fun r9 =>
    if r9 = (0 : Int32) then
      j_M_isAttacked_181 fu gg Q x1 x3 x5 x6
    else
      some (.inr (1 : Int32))
def j_M_isAttacked_123 (fu : Nat) (gg : Int32 → Option (((Unit)) ⊕ (Int32))) (Q : PoT) (x1 : Int32) (x3 : Int32) (x5 : Int32) (x6 : Int32) (x7 : Int32) : Option (((Unit)) ⊕ (Int32)) :=
  (f_M_firstMan fu x1 x5 x6 Q).bind fun r7 =>
  if r7 = ((5 : Int32) + x3) then
    some (.inr (1 : Int32))
  else
    if ¬ x7 = (1 : Int32) then
      j_M_isAttacked_155 fu gg Q x1 x3 x5 x6 r7 (3 : Int32)
    else
      j_M_isAttacked_155 fu gg Q x1 x3 x5 x6 r7 (4 : Int32)
def j_M_isAttacked_111 (fu : Nat) (gg : Int32 → Option (((Unit)) ⊕ (Int32))) (Q : PoT) (x1 : Int32) (x3 : Int32) (x5 : Int32) (x6 : Int32) (x7 : Int32) : Option (((Unit)) ⊕ (Int32)) :=
  if x7 = (1 : Int32) then
    j_M_isAttacked_123 fu gg Q x1 x3 x5 x6 x7
  else
    if ¬ x7 = (2 : Int32) then
      j_M_isAttacked_181 fu gg Q x1 x3 x5 x6
    else
      j_M_isAttacked_123 fu gg Q x1 x3 x5 x6 x7
def b_M_isAttacked_66 (fu : Nat) (Q : PoT) (x1 : Int32) (x3 : Int32) (x5 : Int32) (gg : Int32 → Option (((Unit)) ⊕ (Int32))) (x6 : Int32) : Option (((Unit)) ⊕ (Int32)) :=
  if (2 : Int32) < x6 then
    some (.inl ())
  else
    if ¬ ((x5 * x5) + (x6 * x6)) = (5 : Int32) then
      j_M_isAttacked_111 fu gg Q x1 x3 x5 x6 ((x5 * x5) + (x6 * x6))
    else
      (f_M_step x1 x5 x6).bind fun r5 =>
      (f_M_hasMan r5 ((2 : Int32) + x3) Q).bind fun r6 =>
      if r6 = (0 : Int32) then
        j_M_isAttacked_111 fu gg Q x1 x3 x5 x6 ((x5 * x5) + (x6 * x6))
      else
        some (.inr (1 : Int32))
def l_M_isAttacked_66 (fu : Nat) (Q : PoT) (x1 : Int32) (x3 : Int32) (x5 : Int32) : Nat → Int32 → Option (((Unit)) ⊕ (Int32))
  | 0 => fun _ => none
  | n + 1 => b_M_isAttacked_66 fu Q x1 x3 x5 (l_M_isAttacked_66 fu Q x1 x3 x5 n)
def b_M_isAttacked_56 (fu : Nat) (Q : PoT) (x1 : Int32) (x3 : Int32) (gg : Int32 → Option (Int32)) (x5 : Int32) : Option (Int32) :=
  if (2 : Int32) < x5 then
    some (0 : Int32)
  else
    (l_M_isAttacked_66 fu Q x1 x3 x5 fu (-2 : Int32)).bind fun z => match z with
    | .inl () =>
      j_M_isAttacked_187 fu gg Q x1 x3 x5
    | .inr z => some z
def l_M_isAttacked_56 (fu : Nat) (Q : PoT) (x1 : Int32) (x3 : Int32) : Nat → Int32 → Option (Int32)
  | 0 => fun _ => none
  | n + 1 => b_M_isAttacked_56 fu Q x1 x3 (l_M_isAttacked_56 fu Q x1 x3 n)
def j_M_isAttacked_14 (fu : Nat) (Q : PoT) (x1 : Int32) (x3 : Int32) (s0 : Int32) : Option (Int32) :=
  (f_M_step x1 (-1 : Int32) s0).bind fun r1 =>
  (f_M_hasMan r1 ((1 : Int32) + x3) Q).bind fun r2 =>
  if ¬ r2 = (0 : Int32) then
    some (1 : Int32)
  else
    (f_M_step x1 (1 : Int32) s0).bind fun r3 =>
    (f_M_hasMan r3 ((1 : Int32) + x3) Q).bind fun r4 =>
    if r4 = (0 : Int32) then
      l_M_isAttacked_56 fu Q x1 x3 fu (-2 : Int32)
    else
      some (1 : Int32)
def f_M_isAttacked (fu : Nat) (x1 : Int32) (x2 : Int32) (Q : PoT) : Option (Int32) :=
  if ¬ x2 = (0 : Int32) then
    j_M_isAttacked_14 fu Q x1 ((8 : Int32) * x2) (1 : Int32)
  else
    j_M_isAttacked_14 fu Q x1 ((8 : Int32) * x2) (-1 : Int32)
def b_M_kingOf_2 (fu : Nat) (Q : PoT) (x1 : Int32) (gg : Int32 → Option (Int32)) (x2 : Int32) : Option (Int32) :=
  if am_in x2 64 = true then
    if ((po_men Q) (x2).toNatClampNeg) = ((6 : Int32) + ((8 : Int32) * x1)) then
      some x2
    else
      gg (x2 + (1 : Int32))
  else none
def l_M_kingOf_2 (fu : Nat) (Q : PoT) (x1 : Int32) : Nat → Int32 → Option (Int32)
  | 0 => fun _ => none
  | n + 1 => b_M_kingOf_2 fu Q x1 (l_M_kingOf_2 fu Q x1 n)
def f_M_kingOf (fu : Nat) (x1 : Int32) (Q : PoT) : Option (Int32) :=
  l_M_kingOf_2 fu Q x1 fu (0 : Int32)
def f_M_inCheck (fu : Nat) (x1 : Int32) (Q : PoT) : Option (Int32) :=
  (f_M_kingOf fu x1 Q).bind fun r1 =>
  (f_M_isAttacked fu r1 ((1 : Int32) - x1) Q).bind fun r2 =>
  some (vp_nar .boolean r2)
def j_M_walk_47 (fu : Nat) (gg : Int64 → Int32 → Option (Int64)) (Q : PoT) (x2 : Int32) (x3 : Int32) (l4 : Int64) (s0 : Int32) : Option (Int64) :=
  gg l4 s0
def b_M_walk_11 (fu : Nat) (Q : PoT) (x2 : Int32) (x3 : Int32) (gg : Int64 → Int32 → Option (Int64)) (l4 : Int64) (x6 : Int32) : Option (Int64) :=
  if x6 < (0 : Int32) then
    some l4
  else
    (f_M_bit x6).bind fun r2 =>
    if am_in x6 64 = true then
      if ¬ ((po_men Q) (x6).toNatClampNeg) = (0 : Int32) then
        j_M_walk_47 fu gg Q x2 x3 (l4 ||| r2) (-1 : Int32)
      else
        (f_M_step x6 x2 x3).bind fun r3 =>
        j_M_walk_47 fu gg Q x2 x3 (l4 ||| r2) r3
    else none
def l_M_walk_11 (fu : Nat) (Q : PoT) (x2 : Int32) (x3 : Int32) : Nat → Int64 → Int32 → Option (Int64)
  | 0 => fun _ _ => none
  | n + 1 => b_M_walk_11 fu Q x2 x3 (l_M_walk_11 fu Q x2 x3 n)
def f_M_walk (fu : Nat) (x1 : Int32) (x2 : Int32) (x3 : Int32) (Q : PoT) : Option (Int64) :=
  (f_M_step x1 x2 x3).bind fun r1 =>
  l_M_walk_11 fu Q x2 x3 fu (0 : Int64) r1
def j_M_reach_138 (fu : Nat) (gg : Int64 → Int32 → Option (Int64)) (Q : PoT) (x1 : Int32) (x2 : Int32) (l3 : Int64) (x5 : Int32) : Option (Int64) :=
  gg l3 (x5 + (1 : Int32))
def j_M_reach_132 (fu : Nat) (gg : Int64 → Int32 → Option ((Int64))) (Q : PoT) (x1 : Int32) (x2 : Int32) (l3 : Int64) (x5 : Int32) (x6 : Int32) : Option ((Int64)) :=
  gg l3 (x6 + (1 : Int32))
def j_M_reach_120 (fu : Nat) (gg : Int64 → Int32 → Option ((Int64))) (Q : PoT) (x1 : Int32) (x2 : Int32) (l3 : Int64) (x5 : Int32) (x6 : Int32) : Option ((Int64)) :=
  (f_M_walk fu x1 x5 x6 Q).bind fun r4 =>
  j_M_reach_132 fu gg Q x1 x2 (l3 ||| r4) x5 x6
def j_M_reach_104 (fu : Nat) (gg : Int64 → Int32 → Option ((Int64))) (Q : PoT) (x1 : Int32) (x2 : Int32) (l3 : Int64) (x5 : Int32) (x6 : Int32) (x7 : Int32) : Option ((Int64)) :=
  if ¬ x7 = (2 : Int32) then
    j_M_reach_132 fu gg Q x1 x2 l3 x5 x6
  else
    if x2 = (3 : Int32) then
      j_M_reach_120 fu gg Q x1 x2 l3 x5 x6
    else
      if ¬ x2 = (5 : Int32) then
        j_M_reach_132 fu gg Q x1 x2 l3 x5 x6
      else
        j_M_reach_120 fu gg Q x1 x2 l3 x5 x6
def j_M_reach_88 (fu : Nat) (gg : Int64 → Int32 → Option ((Int64))) (Q : PoT) (x1 : Int32) (x2 : Int32) (l3 : Int64) (x5 : Int32) (x6 : Int32) (x7 : Int32) : Option ((Int64)) :=
  if ¬ x7 = (1 : Int32) then
    j_M_reach_104 fu gg Q x1 x2 l3 x5 x6 x7
  else
    if x2 = (4 : Int32) then
      j_M_reach_120 fu gg Q x1 x2 l3 x5 x6
    else
      if x2 = (5 : Int32) then
        j_M_reach_120 fu gg Q x1 x2 l3 x5 x6
      else
        j_M_reach_104 fu gg Q x1 x2 l3 x5 x6 x7
def j_M_reach_74 (fu : Nat) (gg : Int64 → Int32 → Option ((Int64))) (Q : PoT) (x1 : Int32) (x2 : Int32) (l3 : Int64) (x5 : Int32) (x6 : Int32) (x7 : Int32) : Option ((Int64)) :=
  (f_M_step x1 x5 x6).bind fun r2 =>
  (f_M_bit r2).bind fun r3 =>
  j_M_reach_88 fu gg Q x1 x2 (l3 ||| r3) x5 x6 x7
def j_M_reach_56 (fu : Nat) (gg : Int64 → Int32 → Option ((Int64))) (Q : PoT) (x1 : Int32) (x2 : Int32) (l3 : Int64) (x5 : Int32) (x6 : Int32) (x7 : Int32) : Option ((Int64)) :=
  if ¬ x2 = (6 : Int32) then
    j_M_reach_88 fu gg Q x1 x2 l3 x5 x6 x7
  else
    if x7 = (1 : Int32) then
      j_M_reach_74 fu gg Q x1 x2 l3 x5 x6 x7
    else
      if ¬ x7 = (2 : Int32) then
        j_M_reach_88 fu gg Q x1 x2 l3 x5 x6 x7
      else
        j_M_reach_74 fu gg Q x1 x2 l3 x5 x6 x7
def b_M_reach_26 (fu : Nat) (Q : PoT) (x1 : Int32) (x2 : Int32) (x5 : Int32) (gg : Int64 → Int32 → Option ((Int64))) (l3 : Int64) (x6 : Int32) : Option ((Int64)) :=
  if (2 : Int32) < x6 then
    some l3
  else
    if ¬ x2 = (2 : Int32) then
      j_M_reach_56 fu gg Q x1 x2 l3 x5 x6 ((x5 * x5) + (x6 * x6))
    else
      if ((x5 * x5) + (x6 * x6)) = (5 : Int32) then
        j_M_reach_74 fu gg Q x1 x2 l3 x5 x6 ((x5 * x5) + (x6 * x6))
      else
        j_M_reach_56 fu gg Q x1 x2 l3 x5 x6 ((x5 * x5) + (x6 * x6))
def l_M_reach_26 (fu : Nat) (Q : PoT) (x1 : Int32) (x2 : Int32) (x5 : Int32) : Nat → Int64 → Int32 → Option ((Int64))
  | 0 => fun _ _ => none
  | n + 1 => b_M_reach_26 fu Q x1 x2 x5 (l_M_reach_26 fu Q x1 x2 x5 n)
def b_M_reach_16 (fu : Nat) (Q : PoT) (x1 : Int32) (x2 : Int32) (gg : Int64 → Int32 → Option (Int64)) (l3 : Int64) (x5 : Int32) : Option (Int64) :=
  if (2 : Int32) < x5 then
    some l3
  else
    (l_M_reach_26 fu Q x1 x2 x5 fu l3 (-2 : Int32)).bind fun l3_1 =>
    j_M_reach_138 fu gg Q x1 x2 l3_1 x5
def l_M_reach_16 (fu : Nat) (Q : PoT) (x1 : Int32) (x2 : Int32) : Nat → Int64 → Int32 → Option (Int64)
  | 0 => fun _ _ => none
  | n + 1 => b_M_reach_16 fu Q x1 x2 (l_M_reach_16 fu Q x1 x2 n)
def f_M_reach (fu : Nat) (x1 : Int32) (Q : PoT) : Option (Int64) :=
  if am_in x1 64 = true then
    (f_M_kind ((po_men Q) (x1).toNatClampNeg)).bind fun r1 =>
    l_M_reach_16 fu Q x1 r1 fu (0 : Int64) (-2 : Int32)
  else none
def j_M_pawnGoals_147 (fu : Nat) (gg : Int64 → Int32 → Option (Int64)) (Q : PoT) (x1 : Int32) (x2 : Int32) (l3 : Int64) (x6 : Int32) : Option (Int64) :=
  gg l3 (x6 + (2 : Int32))
def j_M_pawnGoals_139 (fu : Nat) (gg : Int64 → Int32 → Option (Int64)) (Q : PoT) (x1 : Int32) (x2 : Int32) (l3 : Int64) (x6 : Int32) (x7 : Int32) : Option (Int64) :=
  (f_M_bit x7).bind fun r7 =>
  j_M_pawnGoals_147 fu gg Q x1 x2 (l3 ||| r7) x6
def b_M_pawnGoals_95 (fu : Nat) (Q : PoT) (x1 : Int32) (x2 : Int32) (gg : Int64 → Int32 → Option (Int64)) (l3 : Int64) (x6 : Int32) : Option (Int64) :=
  if (1 : Int32) < x6 then
    some l3
  else
    (f_M_step x1 x6 x2).bind fun r5 =>
    if r5 < (0 : Int32) then
      j_M_pawnGoals_147 fu gg Q x1 x2 l3 x6
    else
      (f_M_isOf r5 ((1 : Int32) - (po_side Q)) Q).bind fun r6 =>
      if ¬ r6 = (0 : Int32) then
        j_M_pawnGoals_139 fu gg Q x1 x2 l3 x6 r5
      else
        if ¬ r5 = (po_passed Q) then
          j_M_pawnGoals_147 fu gg Q x1 x2 l3 x6
        else
          j_M_pawnGoals_139 fu gg Q x1 x2 l3 x6 r5
def l_M_pawnGoals_95 (fu : Nat) (Q : PoT) (x1 : Int32) (x2 : Int32) : Nat → Int64 → Int32 → Option (Int64)
  | 0 => fun _ _ => none
  | n + 1 => b_M_pawnGoals_95 fu Q x1 x2 (l_M_pawnGoals_95 fu Q x1 x2 n)
def j_M_pawnGoals_92 (fu : Nat) (Q : PoT) (x1 : Int32) (x2 : Int32) (l3 : Int64) : Option (Int64) :=
  l_M_pawnGoals_95 fu Q x1 x2 fu l3 (-1 : Int32)
def j_M_pawnGoals_71 (fu : Nat) (Q : PoT) (x1 : Int32) (x2 : Int32) (l3 : Int64) (x6 : Int32) (s0 : Int32) (s1 : Int32) : Option (Int64) :=
  if ¬ s0 = s1 then
    j_M_pawnGoals_92 fu Q x1 x2 l3
  else
    if am_in x6 64 = true then
      if ¬ ((po_men Q) (x6).toNatClampNeg) = (0 : Int32) then
        j_M_pawnGoals_92 fu Q x1 x2 l3
      else
        (f_M_bit x6).bind fun r4 =>
        j_M_pawnGoals_92 fu Q x1 x2 (l3 ||| r4)
    else none
def j_M_pawnGoals_12 (fu : Nat) (Q : PoT) (x1 : Int32) (s0 : Int32) : Option (Int64) :=
  (f_M_step x1 (0 : Int32) s0).bind fun r1 =>
  if r1 < (0 : Int32) then
    j_M_pawnGoals_92 fu Q x1 s0 (0 : Int64)
  else
    if am_in r1 64 = true then
      if ¬ ((po_men Q) (r1).toNatClampNeg) = (0 : Int32) then
        j_M_pawnGoals_92 fu Q x1 s0 (0 : Int64)
      else
        (f_M_bit r1).bind fun r2 =>
        (f_M_step r1 (0 : Int32) s0).bind fun r3 =>
        if ¬ (po_side Q) = (0 : Int32) then
          j_M_pawnGoals_71 fu Q x1 s0 ((0 : Int64) ||| r2) r3 (x1 >>> ((3 : Int32) &&& 31)) (6 : Int32)
        else
          j_M_pawnGoals_71 fu Q x1 s0 ((0 : Int64) ||| r2) r3 (x1 >>> ((3 : Int32) &&& 31)) (1 : Int32)
    else none
def f_M_pawnGoals (fu : Nat) (x1 : Int32) (Q : PoT) : Option (Int64) :=
  if ¬ (po_side Q) = (0 : Int32) then
    j_M_pawnGoals_12 fu Q x1 (-1 : Int32)
  else
    j_M_pawnGoals_12 fu Q x1 (1 : Int32)
def j_M_mayCastle_66 (fu : Nat) (gg : Int32 → Option (((Unit)) ⊕ (Int32))) (Q : PoT) (x1 : Int32) (x2 : Int32) (x4 : Int32) (s0 : Int32) (s1 : Int32) : Option (((Unit)) ⊕ (Int32)) :=
  if s1 ≤ s0 then
    some (.inl ())
  else
    if am_in x4 64 = true then
      if ((po_men Q) (x4).toNatClampNeg) = (0 : Int32) then
        gg (x4 + (1 : Int32))
      else
        some (.inr (0 : Int32))
    else none
def j_M_mayCastle_112 (fu : Nat) (Q : PoT) (s1 : Int32) : Option (Int32) :=
  (f_M_isAttacked fu s1 ((1 : Int32) - (po_side Q)) Q).bind fun r2 =>
  if ¬ r2 = (0 : Int32) then
    some (0 : Int32)
  else
    some (1 : Int32)
def b_M_mayCastle_53 (fu : Nat) (Q : PoT) (x1 : Int32) (x2 : Int32) (gg : Int32 → Option (((Unit)) ⊕ (Int32))) (x4 : Int32) : Option (((Unit)) ⊕ (Int32)) :=
  if x1 = (0 : Int32) then
    j_M_mayCastle_66 fu gg Q x1 x2 x4 x4 x2
  else
    j_M_mayCastle_66 fu gg Q x1 x2 x4 x4 (x2 + (3 : Int32))
def l_M_mayCastle_53 (fu : Nat) (Q : PoT) (x1 : Int32) (x2 : Int32) : Nat → Int32 → Option (((Unit)) ⊕ (Int32))
  | 0 => fun _ => none
  | n + 1 => b_M_mayCastle_53 fu Q x1 x2 (l_M_mayCastle_53 fu Q x1 x2 n)
def j_M_mayCastle_87 (fu : Nat) (Q : PoT) (x1 : Int32) (x2 : Int32) : Option (Int32) :=
  (f_M_inCheck fu (po_side Q) Q).bind fun r1 =>
  if ¬ r1 = (0 : Int32) then
    some (0 : Int32)
  else
    if x1 = (0 : Int32) then
      j_M_mayCastle_112 fu Q (x2 - (1 : Int32))
    else
      j_M_mayCastle_112 fu Q (x2 + (1 : Int32))
def j_M_mayCastle_51 (fu : Nat) (Q : PoT) (x1 : Int32) (x2 : Int32) (s0 : Int32) : Option (Int32) :=
  (l_M_mayCastle_53 fu Q x1 x2 fu s0).bind fun z => match z with
  | .inl () =>
    j_M_mayCastle_87 fu Q x1 x2
  | .inr z => some z
def j_M_mayCastle_19 (fu : Nat) (Q : PoT) (x1 : Int32) (x2 : Int32) (s0 : Int32) : Option (Int32) :=
  if ¬ ((po_rights Q) &&& (s0 <<< (((2 : Int32) * (po_side Q)) &&& 31))) = (0 : Int32) then
    if x1 = (0 : Int32) then
      j_M_mayCastle_51 fu Q x1 x2 (x2 - (3 : Int32))
    else
      j_M_mayCastle_51 fu Q x1 x2 (x2 + (1 : Int32))
  else
    some (0 : Int32)
def f_M_mayCastle (fu : Nat) (x1 : Int32) (Q : PoT) : Option (Int32) :=
  if x1 = (0 : Int32) then
    j_M_mayCastle_19 fu Q x1 (((56 : Int32) * (po_side Q)) + (4 : Int32)) (2 : Int32)
  else
    j_M_mayCastle_19 fu Q x1 (((56 : Int32) * (po_side Q)) + (4 : Int32)) (1 : Int32)
def j_M_goals_71 (fu : Nat) (Q : PoT) (x1 : Int32) (t0 : Int64) (t1 : Int64) : Option (Int64) :=
  (f_M_mayCastle fu (0 : Int32) Q).bind fun r7 =>
  if r7 = (0 : Int32) then
    some ((t0 ||| t1) ||| (0 : Int64))
  else
    (f_M_bit (x1 - (2 : Int32))).bind fun r8 =>
    some ((t0 ||| t1) ||| r8)
def f_M_goals (fu : Nat) (x1 : Int32) (Q : PoT) : Option (Int64) :=
  if am_in x1 64 = true then
    (f_M_kind ((po_men Q) (x1).toNatClampNeg)).bind fun r1 =>
    if ¬ r1 = (1 : Int32) then
      (f_M_reach fu x1 Q).bind fun r2 =>
      if am_in x1 64 = true then
        (f_M_kind ((po_men Q) (x1).toNatClampNeg)).bind fun r3 =>
        if ¬ r3 = (6 : Int32) then
          some r2
        else
          if ¬ x1 = (((56 : Int32) * (po_side Q)) + (4 : Int32)) then
            some r2
          else
            (f_M_mayCastle fu (1 : Int32) Q).bind fun r4 =>
            if r4 = (0 : Int32) then
              j_M_goals_71 fu Q x1 r2 (0 : Int64)
            else
              (f_M_bit (x1 + (2 : Int32))).bind fun r5 =>
              j_M_goals_71 fu Q x1 r2 r5
      else none
    else
      (f_M_pawnGoals fu x1 Q).bind fun r6 =>
      some r6
  else none
def f_M_lost (x0 : Int32) : Option (Int32) :=
  if x0 = (0 : Int32) then
    some (2 : Int32)
  else if x0 = (4 : Int32) then
    some (3 : Int32)
  else if x0 = (7 : Int32) then
    some (1 : Int32)
  else if x0 = (56 : Int32) then
    some (8 : Int32)
  else if x0 = (60 : Int32) then
    some (12 : Int32)
  else if x0 = (63 : Int32) then
    some (4 : Int32)
  else some (0 : Int32)
def j_M_castleRook_53 (Q : PoT) (x3 : Int32) (x4 : Int32) (x5 : Int32) (s1 : Int32) (s3 : Int32) : Option (PoT) :=
  if am_in s3 64 = true then
    if am_in s1 64 = true then
      if x3 = (0 : Int32) then
        if am_in x4 64 = true then
          some ((upd (upd (po_men Q) (s1).toNatClampNeg ((po_men Q) (s3).toNatClampNeg)) (x4).toNatClampNeg (0 : Int32)), (po_side Q), (po_rights Q), (po_passed Q), (po_clock Q))
        else none
      else
        if am_in x5 64 = true then
          some ((upd (upd (po_men Q) (s1).toNatClampNeg ((po_men Q) (s3).toNatClampNeg)) (x5).toNatClampNeg (0 : Int32)), (po_side Q), (po_rights Q), (po_passed Q), (po_clock Q))
        else none
    else none
  else none
def j_M_castleRook_38 (Q : PoT) (x3 : Int32) (x4 : Int32) (x5 : Int32) (s1 : Int32) : Option (PoT) :=
  if x3 = (0 : Int32) then
    j_M_castleRook_53 Q x3 x4 x5 s1 x4
  else
    j_M_castleRook_53 Q x3 x4 x5 s1 x5
def j_M_castleRook_14 (Q : PoT) (x1 : Int32) (x2 : Int32) (x3 : Int32) (s0 : Int32) : Option (PoT) :=
  if x3 = (0 : Int32) then
    j_M_castleRook_38 Q x3 s0 ((x1 + x2) / (2 : Int32)) ((x1 + x2) / (2 : Int32))
  else
    j_M_castleRook_38 Q x3 s0 ((x1 + x2) / (2 : Int32)) s0
def f_M_castleRook (x1 : Int32) (x2 : Int32) (x3 : Int32) (Q : PoT) : Option (PoT) :=
  if x2 ≤ x1 then
    j_M_castleRook_14 Q x1 x2 x3 (x1 - (4 : Int32))
  else
    j_M_castleRook_14 Q x1 x2 x3 (x1 + (3 : Int32))
def j_M_make_349 (Q : PoT) (U : UnT) : Option (PoT × UnT) :=
  some (((po_men Q), ((1 : Int32) - (po_side Q)), (po_rights Q), (po_passed Q), (po_clock Q)), U)
def j_M_make_346 (Q : PoT) (U : UnT) (s1 : Int32) : Option (PoT × UnT) :=
  j_M_make_349 ((po_men Q), (po_side Q), (po_rights Q), s1, (po_clock Q)) U
def j_M_make_336 (Q : PoT) (U : UnT) (x3 : Int32) (x4 : Int32) : Option (PoT × UnT) :=
  j_M_make_346 Q U ((x3 + x4) / (2 : Int32))
def j_M_make_290 (Q : PoT) (U : UnT) (x3 : Int32) (x4 : Int32) : Option (PoT × UnT) :=
  (f_M_step x4 (-1 : Int32) (0 : Int32)).bind fun r6 =>
  (f_M_hasMan r6 ((1 : Int32) + ((8 : Int32) * ((1 : Int32) - (po_side Q)))) Q).bind fun r7 =>
  if ¬ r7 = (0 : Int32) then
    j_M_make_336 Q U x3 x4
  else
    (f_M_step x4 (1 : Int32) (0 : Int32)).bind fun r8 =>
    (f_M_hasMan r8 ((1 : Int32) + ((8 : Int32) * ((1 : Int32) - (po_side Q)))) Q).bind fun r9 =>
    if r9 = (0 : Int32) then
      j_M_make_346 Q U (-1 : Int32)
    else
      j_M_make_336 Q U x3 x4
def j_M_make_239 (Q : PoT) (U : UnT) (x3 : Int32) (x4 : Int32) (x7 : Int32) : Option (PoT × UnT) :=
  (f_M_lost x3).bind fun r3 =>
  (f_M_lost x4).bind fun r4 =>
  if x7 = (0 : Int32) then
    j_M_make_349 ((po_men Q), (po_side Q), (((po_rights Q) &&& (r3 ^^^ (-1 : Int32))) &&& (r4 ^^^ (-1 : Int32))), (-1 : Int32), (po_clock Q)) U
  else
    if (x4 - x3) = (16 : Int32) then
      j_M_make_290 ((po_men Q), (po_side Q), (((po_rights Q) &&& (r3 ^^^ (-1 : Int32))) &&& (r4 ^^^ (-1 : Int32))), (-1 : Int32), (po_clock Q)) U x3 x4
    else
      if ¬ (x3 - x4) = (16 : Int32) then
        j_M_make_349 ((po_men Q), (po_side Q), (((po_rights Q) &&& (r3 ^^^ (-1 : Int32))) &&& (r4 ^^^ (-1 : Int32))), (-1 : Int32), (po_clock Q)) U
      else
        j_M_make_290 ((po_men Q), (po_side Q), (((po_rights Q) &&& (r3 ^^^ (-1 : Int32))) &&& (r4 ^^^ (-1 : Int32))), (-1 : Int32), (po_clock Q)) U x3 x4
def j_M_make_231 (Q : PoT) (U : UnT) (x3 : Int32) (x4 : Int32) (x7 : Int32) : Option (PoT × UnT) :=
  (f_M_castleRook x3 x4 (0 : Int32) Q).bind fun qg5 =>
  j_M_make_239 qg5 U x3 x4 x7
def j_M_make_204 (Q : PoT) (U : UnT) (x3 : Int32) (x4 : Int32) (x6 : Int32) (x7 : Int32) (s1 : Int32) (s2 : Int32) : Option (PoT × UnT) :=
  if am_in s1 64 = true then
    (f_M_kind x6).bind fun r2 =>
    if ¬ r2 = (6 : Int32) then
      j_M_make_239 ((upd (po_men Q) (s1).toNatClampNeg s2), (po_side Q), (po_rights Q), (po_passed Q), (po_clock Q)) U x3 x4 x7
    else
      if (x4 - x3) = (2 : Int32) then
        j_M_make_231 ((upd (po_men Q) (s1).toNatClampNeg s2), (po_side Q), (po_rights Q), (po_passed Q), (po_clock Q)) U x3 x4 x7
      else
        if ¬ (x3 - x4) = (2 : Int32) then
          j_M_make_239 ((upd (po_men Q) (s1).toNatClampNeg s2), (po_side Q), (po_rights Q), (po_passed Q), (po_clock Q)) U x3 x4 x7
        else
          j_M_make_231 ((upd (po_men Q) (s1).toNatClampNeg s2), (po_side Q), (po_rights Q), (po_passed Q), (po_clock Q)) U x3 x4 x7
  else none
def j_M_make_160 (Q : PoT) (U : UnT) (x3 : Int32) (x4 : Int32) (x5 : Int32) (x6 : Int32) (x7 : Int32) (x8 : Int32) (s1 : Int32) : Option (PoT × UnT) :=
  if am_in x8 64 = true then
    if am_in x3 64 = true then
      if x5 ≤ (0 : Int32) then
        j_M_make_204 ((upd (upd (po_men Q) (x8).toNatClampNeg (0 : Int32)) (x3).toNatClampNeg (0 : Int32)), (po_side Q), (po_rights Q), (po_passed Q), s1) U x3 x4 x6 x7 x4 x6
      else
        j_M_make_204 ((upd (upd (po_men Q) (x8).toNatClampNeg (0 : Int32)) (x3).toNatClampNeg (0 : Int32)), (po_side Q), (po_rights Q), (po_passed Q), s1) U x3 x4 x6 x7 x4 (x5 + ((8 : Int32) * (po_side Q)))
    else none
  else none
def j_M_make_150 (Q : PoT) (U : UnT) (x3 : Int32) (x4 : Int32) (x5 : Int32) (x6 : Int32) (x7 : Int32) (x8 : Int32) : Option (PoT × UnT) :=
  j_M_make_160 Q U x3 x4 x5 x6 x7 x8 (0 : Int32)
def j_M_make_73 (Q : PoT) (U : UnT) (x2 : Int32) (x3 : Int32) (x4 : Int32) (x5 : Int32) (x6 : Int32) (x7 : Int32) (s0 : Int32) : Option (PoT × UnT) :=
  if am_in x2 11 = true then
    if am_in s0 64 = true then
      if am_in x2 11 = true then
        if am_in x2 11 = true then
          if am_in x2 11 = true then
            if am_in x2 11 = true then
              if am_in x2 11 = true then
                if ¬ x7 = (0 : Int32) then
                  j_M_make_150 Q ((upd (un_undoMan U) (x2).toNatClampNeg x6), (upd (un_undoTaken U) (x2).toNatClampNeg ((po_men Q) (s0).toNatClampNeg)), (upd (un_undoWhere U) (x2).toNatClampNeg s0), (upd (un_undoRights U) (x2).toNatClampNeg (po_rights Q)), (upd (un_undoPassed U) (x2).toNatClampNeg (po_passed Q)), (upd (un_undoClock U) (x2).toNatClampNeg (po_clock Q))) x3 x4 x5 x6 x7 s0
                else
                  if am_in s0 64 = true then
                    if ((po_men Q) (s0).toNatClampNeg) = (0 : Int32) then
                      j_M_make_160 Q ((upd (un_undoMan U) (x2).toNatClampNeg x6), (upd (un_undoTaken U) (x2).toNatClampNeg ((po_men Q) (s0).toNatClampNeg)), (upd (un_undoWhere U) (x2).toNatClampNeg s0), (upd (un_undoRights U) (x2).toNatClampNeg (po_rights Q)), (upd (un_undoPassed U) (x2).toNatClampNeg (po_passed Q)), (upd (un_undoClock U) (x2).toNatClampNeg (po_clock Q))) x3 x4 x5 x6 x7 s0 ((po_clock Q) + (1 : Int32))
                    else
                      j_M_make_150 Q ((upd (un_undoMan U) (x2).toNatClampNeg x6), (upd (un_undoTaken U) (x2).toNatClampNeg ((po_men Q) (s0).toNatClampNeg)), (upd (un_undoWhere U) (x2).toNatClampNeg s0), (upd (un_undoRights U) (x2).toNatClampNeg (po_rights Q)), (upd (un_undoPassed U) (x2).toNatClampNeg (po_passed Q)), (upd (un_undoClock U) (x2).toNatClampNeg (po_clock Q))) x3 x4 x5 x6 x7 s0
                  else none
              else none
            else none
          else none
        else none
      else none
    else none
  else none
def j_M_make_71 (Q : PoT) (U : UnT) (x2 : Int32) (x3 : Int32) (x4 : Int32) (x5 : Int32) (x6 : Int32) (x7 : Int32) : Option (PoT × UnT) :=
  j_M_make_73 Q U x2 x3 x4 x5 x6 x7 x4
def j_M_make_42 (Q : PoT) (U : UnT) (x2 : Int32) (x3 : Int32) (x4 : Int32) (x5 : Int32) (x6 : Int32) (s0 : Int32) : Option (PoT × UnT) :=
  if s0 = (0 : Int32) then
    j_M_make_71 Q U x2 x3 x4 x5 x6 s0
  else
    if ¬ x4 = (po_passed Q) then
      j_M_make_71 Q U x2 x3 x4 x5 x6 s0
    else
      j_M_make_73 Q U x2 x3 x4 x5 x6 s0 ((x3 &&& (56 : Int32)) + (x4 &&& (7 : Int32)))
def f_M_make (x1 : Int32) (x2 : Int32) (Q : PoT) (U : UnT) : Option (PoT × UnT) :=
  if am_in (x1 &&& (63 : Int32)) 64 = true then
    (f_M_kind ((po_men Q) ((x1 &&& (63 : Int32))).toNatClampNeg)).bind fun r1 =>
    if ¬ r1 = (1 : Int32) then
      j_M_make_42 Q U x2 (x1 &&& (63 : Int32)) ((x1 >>> ((6 : Int32) &&& 31)) &&& (63 : Int32)) (x1 >>> ((12 : Int32) &&& 31)) ((po_men Q) ((x1 &&& (63 : Int32))).toNatClampNeg) (0 : Int32)
    else
      j_M_make_42 Q U x2 (x1 &&& (63 : Int32)) ((x1 >>> ((6 : Int32) &&& 31)) &&& (63 : Int32)) (x1 >>> ((12 : Int32) &&& 31)) ((po_men Q) ((x1 &&& (63 : Int32))).toNatClampNeg) (1 : Int32)
  else none
def j_M_takeBack_62 (Q : PoT) (U : UnT) (x2 : Int32) (x3 : Int32) (x4 : Int32) : Option (PoT) :=
  if am_in x4 64 = true then
    if am_in x2 11 = true then
      if am_in x2 11 = true then
        if am_in ((un_undoWhere U) (x2).toNatClampNeg) 64 = true then
          if am_in x2 11 = true then
            if am_in x3 64 = true then
              if am_in x2 11 = true then
                if am_in x2 11 = true then
                  if am_in x2 11 = true then
                    some ((upd (upd (upd (po_men Q) (x4).toNatClampNeg (0 : Int32)) (((un_undoWhere U) (x2).toNatClampNeg)).toNatClampNeg ((un_undoTaken U) (x2).toNatClampNeg)) (x3).toNatClampNeg ((un_undoMan U) (x2).toNatClampNeg)), (po_side Q), ((un_undoRights U) (x2).toNatClampNeg), ((un_undoPassed U) (x2).toNatClampNeg), ((un_undoClock U) (x2).toNatClampNeg))
                  else none
                else none
              else none
            else none
          else none
        else none
      else none
    else none
  else none
def j_M_takeBack_54 (Q : PoT) (U : UnT) (x2 : Int32) (x3 : Int32) (x4 : Int32) : Option (PoT) :=
  (f_M_castleRook x3 x4 (1 : Int32) Q).bind fun qg2 =>
  j_M_takeBack_62 qg2 U x2 x3 x4
def f_M_takeBack (x1 : Int32) (x2 : Int32) (Q : PoT) (U : UnT) : Option (PoT) :=
  if am_in x2 11 = true then
    (f_M_kind ((un_undoMan U) (x2).toNatClampNeg)).bind fun r1 =>
    if ¬ r1 = (6 : Int32) then
      j_M_takeBack_62 ((po_men Q), ((1 : Int32) - (po_side Q)), (po_rights Q), (po_passed Q), (po_clock Q)) U x2 (x1 &&& (63 : Int32)) ((x1 >>> ((6 : Int32) &&& 31)) &&& (63 : Int32))
    else
      if (((x1 >>> ((6 : Int32) &&& 31)) &&& (63 : Int32)) - (x1 &&& (63 : Int32))) = (2 : Int32) then
        j_M_takeBack_54 ((po_men Q), ((1 : Int32) - (po_side Q)), (po_rights Q), (po_passed Q), (po_clock Q)) U x2 (x1 &&& (63 : Int32)) ((x1 >>> ((6 : Int32) &&& 31)) &&& (63 : Int32))
      else
        if ¬ ((x1 &&& (63 : Int32)) - ((x1 >>> ((6 : Int32) &&& 31)) &&& (63 : Int32))) = (2 : Int32) then
          j_M_takeBack_62 ((po_men Q), ((1 : Int32) - (po_side Q)), (po_rights Q), (po_passed Q), (po_clock Q)) U x2 (x1 &&& (63 : Int32)) ((x1 >>> ((6 : Int32) &&& 31)) &&& (63 : Int32))
        else
          j_M_takeBack_54 ((po_men Q), ((1 : Int32) - (po_side Q)), (po_rights Q), (po_passed Q), (po_clock Q)) U x2 (x1 &&& (63 : Int32)) ((x1 >>> ((6 : Int32) &&& 31)) &&& (63 : Int32))
  else none
def j_M_isLegal_25 (fu : Nat) (Q : PoT) (U : UnT) (x1 : Int32) (s0 : Int32) : Option (Int32 × PoT × UnT) :=
  (f_M_takeBack x1 (10 : Int32) Q U).bind fun qg4 =>
  some ((vp_nar .boolean s0), qg4, U)
def f_M_isLegal (fu : Nat) (x1 : Int32) (Q : PoT) (U : UnT) : Option (Int32 × PoT × UnT) :=
  (f_M_make x1 (10 : Int32) Q U).bind fun (qg1, ug2) =>
  (f_M_inCheck fu ((1 : Int32) - (po_side qg1)) qg1).bind fun r3 =>
  if ¬ r3 = (0 : Int32) then
    j_M_isLegal_25 fu qg1 ug2 x1 (0 : Int32)
  else
    j_M_isLegal_25 fu qg1 ug2 x1 (1 : Int32)
def j_M_list_199 (fu : Nat) (Q : PoT) (U : UnT) (Y : LiT) (x1 : Int32) (x2 : Int32) : Option (Int32 × PoT × UnT × LiT) :=
  if am_in x1 10 = true then
    some (x2, Q, U, ((li_lists Y), (upd (li_counts Y) (x1).toNatClampNeg x2)))
  else none
def j_M_list_193 (fu : Nat) (gg : Int32 → Int32 → PoT → UnT → LiT → Option ((Int32 × PoT × UnT × LiT))) (Q : PoT) (U : UnT) (Y : LiT) (x1 : Int32) (x2 : Int32) (x3 : Int32) : Option ((Int32 × PoT × UnT × LiT)) :=
  gg x2 (x3 + (1 : Int32)) Q U Y
def j_M_list_187 (fu : Nat) (gg : Int32 → Int32 → PoT → UnT → LiT → Option ((Int32 × PoT × UnT × LiT))) (Q : PoT) (U : UnT) (Y : LiT) (x1 : Int32) (x2 : Int32) (x3 : Int32) (l4 : Int64) (x6 : Int32) : Option ((Int32 × PoT × UnT × LiT)) :=
  gg x2 (x6 + (1 : Int32)) Q U Y
def j_M_list_181 (fu : Nat) (gg : Int32 → Int32 → PoT → UnT → LiT → Option ((Int32 × PoT × UnT × LiT))) (Q : PoT) (U : UnT) (Y : LiT) (x1 : Int32) (x2 : Int32) (x3 : Int32) (l4 : Int64) (x6 : Int32) (x7 : Int32) (x8 : Int32) : Option ((Int32 × PoT × UnT × LiT)) :=
  gg x2 (x8 + (1 : Int32)) Q U Y
def j_M_list_136 (fu : Nat) (gg : Int32 → Int32 → PoT → UnT → LiT → Option ((Int32 × PoT × UnT × LiT))) (Q : PoT) (U : UnT) (Y : LiT) (x1 : Int32) (x2 : Int32) (x3 : Int32) (l4 : Int64) (x6 : Int32) (x7 : Int32) (x8 : Int32) (s0 : Int32) (s1 : Int32) : Option ((Int32 × PoT × UnT × LiT)) :=
  if s1 < s0 then
    some (x2, Q, U, Y)
  else
    (f_M_isLegal fu ((x3 + ((64 : Int32) * x6)) + ((4096 : Int32) * x8)) Q U).bind fun (r5, qg6, ug7) =>
    if r5 = (0 : Int32) then
      j_M_list_181 fu gg qg6 ug7 Y x1 x2 x3 l4 x6 x7 x8
    else
      if am_in (((2048 : Int32) * x1) + x2) 20480 = true then
        j_M_list_181 fu gg qg6 ug7 ((upd (li_lists Y) ((((2048 : Int32) * x1) + x2)).toNatClampNeg ((x3 + ((64 : Int32) * x6)) + ((4096 : Int32) * x8))), (li_counts Y)) x1 (x2 + (1 : Int32)) x3 l4 x6 x7 x8
      else none
def b_M_list_124 (fu : Nat) (x1 : Int32) (x3 : Int32) (l4 : Int64) (x6 : Int32) (x7 : Int32) (gg : Int32 → Int32 → PoT → UnT → LiT → Option ((Int32 × PoT × UnT × LiT))) (x2 : Int32) (x8 : Int32) (Q : PoT) (U : UnT) (Y : LiT) : Option ((Int32 × PoT × UnT × LiT)) :=
  if x7 = (0 : Int32) then
    j_M_list_136 fu gg Q U Y x1 x2 x3 l4 x6 x7 x8 x8 (0 : Int32)
  else
    j_M_list_136 fu gg Q U Y x1 x2 x3 l4 x6 x7 x8 x8 (5 : Int32)
def l_M_list_124 (fu : Nat) (x1 : Int32) (x3 : Int32) (l4 : Int64) (x6 : Int32) (x7 : Int32) : Nat → Int32 → Int32 → PoT → UnT → LiT → Option ((Int32 × PoT × UnT × LiT))
  | 0 => fun _ _ _ _ _ => none
  | n + 1 => b_M_list_124 fu x1 x3 l4 x6 x7 (l_M_list_124 fu x1 x3 l4 x6 x7 n)
def j_M_list_122 (fu : Nat) (gg : Int32 → Int32 → PoT → UnT → LiT → Option ((Int32 × PoT × UnT × LiT))) (Q : PoT) (U : UnT) (Y : LiT) (x1 : Int32) (x2 : Int32) (x3 : Int32) (l4 : Int64) (x6 : Int32) (x7 : Int32) (s0 : Int32) : Option ((Int32 × PoT × UnT × LiT)) :=
  (l_M_list_124 fu x1 x3 l4 x6 x7 fu x2 s0 Q U Y).bind fun (x2_1, qz_1, uz_1, yz_1) =>
  j_M_list_187 fu gg qz_1 uz_1 yz_1 x1 x2_1 x3 l4 x6
def j_M_list_110 (fu : Nat) (gg : Int32 → Int32 → PoT → UnT → LiT → Option ((Int32 × PoT × UnT × LiT))) (Q : PoT) (U : UnT) (Y : LiT) (x1 : Int32) (x2 : Int32) (x3 : Int32) (l4 : Int64) (x6 : Int32) (s0 : Int32) : Option ((Int32 × PoT × UnT × LiT)) :=
  if s0 = (0 : Int32) then
    j_M_list_122 fu gg Q U Y x1 x2 x3 l4 x6 s0 (0 : Int32)
  else
    j_M_list_122 fu gg Q U Y x1 x2 x3 l4 x6 s0 (2 : Int32)
def j_M_list_109 (fu : Nat) (gg : Int32 → Int32 → PoT → UnT → LiT → Option ((Int32 × PoT × UnT × LiT))) (Q : PoT) (U : UnT) (Y : LiT) (x1 : Int32) (x2 : Int32) (x3 : Int32) (l4 : Int64) (x6 : Int32) : Option ((Int32 × PoT × UnT × LiT)) :=
  j_M_list_110 fu gg Q U Y x1 x2 x3 l4 x6 (0 : Int32)
def j_M_list_105 (fu : Nat) (gg : Int32 → Int32 → PoT → UnT → LiT → Option ((Int32 × PoT × UnT × LiT))) (Q : PoT) (U : UnT) (Y : LiT) (x1 : Int32) (x2 : Int32) (x3 : Int32) (l4 : Int64) (x6 : Int32) : Option ((Int32 × PoT × UnT × LiT)) :=
  j_M_list_110 fu gg Q U Y x1 x2 x3 l4 x6 (1 : Int32)
def b_M_list_36 (fu : Nat) (x1 : Int32) (x3 : Int32) (l4 : Int64) (gg : Int32 → Int32 → PoT → UnT → LiT → Option ((Int32 × PoT × UnT × LiT))) (x2 : Int32) (x6 : Int32) (Q : PoT) (U : UnT) (Y : LiT) : Option ((Int32 × PoT × UnT × LiT)) :=
  if (64 : Int32) ≤ x6 then
    some (x2, Q, U, Y)
  else
    if (lg_cmp (am_shr l4 x6) (0 : Int64)) = (0 : Int32) then
      some (x2, Q, U, Y)
    else
      if ¬ (lg_cmp ((am_shr l4 x6) &&& (1 : Int64)) (1 : Int64)) = (0 : Int32) then
        j_M_list_187 fu gg Q U Y x1 x2 x3 l4 x6
      else
        (f_M_isOf x6 (po_side Q) Q).bind fun r3 =>
        if ¬ r3 = (0 : Int32) then
          j_M_list_187 fu gg Q U Y x1 x2 x3 l4 x6
        else
          if am_in x3 64 = true then
            (f_M_kind ((po_men Q) (x3).toNatClampNeg)).bind fun r4 =>
            if ¬ r4 = (1 : Int32) then
              j_M_list_109 fu gg Q U Y x1 x2 x3 l4 x6
            else
              if x6 < (8 : Int32) then
                j_M_list_105 fu gg Q U Y x1 x2 x3 l4 x6
              else
                if x6 ≤ (55 : Int32) then
                  j_M_list_109 fu gg Q U Y x1 x2 x3 l4 x6
                else
                  j_M_list_105 fu gg Q U Y x1 x2 x3 l4 x6
          else none
def l_M_list_36 (fu : Nat) (x1 : Int32) (x3 : Int32) (l4 : Int64) : Nat → Int32 → Int32 → PoT → UnT → LiT → Option ((Int32 × PoT × UnT × LiT))
  | 0 => fun _ _ _ _ _ => none
  | n + 1 => b_M_list_36 fu x1 x3 l4 (l_M_list_36 fu x1 x3 l4 n)
def j_M_list_31 (fu : Nat) (gg : Int32 → Int32 → PoT → UnT → LiT → Option ((Int32 × PoT × UnT × LiT))) (Q : PoT) (U : UnT) (Y : LiT) (x1 : Int32) (x2 : Int32) (x3 : Int32) (t0 : Int64) : Option ((Int32 × PoT × UnT × LiT)) :=
  (l_M_list_36 fu x1 x3 t0 fu x2 (0 : Int32) Q U Y).bind fun (x2_1, qz_1, uz_1, yz_1) =>
  j_M_list_193 fu gg qz_1 uz_1 yz_1 x1 x2_1 x3
def b_M_list_4 (fu : Nat) (x1 : Int32) (gg : Int32 → Int32 → PoT → UnT → LiT → Option ((Int32 × PoT × UnT × LiT))) (x2 : Int32) (x3 : Int32) (Q : PoT) (U : UnT) (Y : LiT) : Option ((Int32 × PoT × UnT × LiT)) :=
  if (64 : Int32) ≤ x3 then
    some (x2, Q, U, Y)
  else
    (f_M_isOf x3 (po_side Q) Q).bind fun r1 =>
    if r1 = (0 : Int32) then
      j_M_list_31 fu gg Q U Y x1 x2 x3 (0 : Int64)
    else
      (f_M_goals fu x3 Q).bind fun r2 =>
      j_M_list_31 fu gg Q U Y x1 x2 x3 r2
def l_M_list_4 (fu : Nat) (x1 : Int32) : Nat → Int32 → Int32 → PoT → UnT → LiT → Option ((Int32 × PoT × UnT × LiT))
  | 0 => fun _ _ _ _ _ => none
  | n + 1 => b_M_list_4 fu x1 (l_M_list_4 fu x1 n)
def f_M_list (fu : Nat) (x1 : Int32) (Q : PoT) (U : UnT) (Y : LiT) : Option (Int32 × PoT × UnT × LiT) :=
  (l_M_list_4 fu x1 fu (0 : Int32) (0 : Int32) Q U Y).bind fun (x2_1, qz_1, uz_1, yz_1) =>
  j_M_list_199 fu qz_1 uz_1 yz_1 x1 x2_1
def b_M_enter_2 (fu : Nat) (Q : PoT) (K : KeT) (gg : Int32 → PaT → Option ((PaT))) (x1 : Int32) (A : PaT) : Option ((PaT)) :=
  if (64 : Int32) ≤ x1 then
    some A
  else
    if am_in x1 64 = true then
      if am_in (((64 : Int32) * (pa_plies A)) + x1) 576 = true then
        gg (x1 + (1 : Int32)) ((upd (pa_pastMen A) ((((64 : Int32) * (pa_plies A)) + x1)).toNatClampNeg ((po_men Q) (x1).toNatClampNeg)), (pa_pastSide A), (pa_pastRights A), (pa_pastPassed A), (pa_plies A))
      else none
    else none
def l_M_enter_2 (fu : Nat) (Q : PoT) (K : KeT) : Nat → Int32 → PaT → Option ((PaT))
  | 0 => fun _ _ => none
  | n + 1 => b_M_enter_2 fu Q K (l_M_enter_2 fu Q K n)
def j_M_enter_34 (fu : Nat) (Q : PoT) (A : PaT) (K : KeT) : Option (PaT × KeT) :=
  if am_in (pa_plies A) 9 = true then
    if am_in (pa_plies A) 9 = true then
      if am_in (pa_plies A) 9 = true then
        some (((pa_pastMen A), (upd (pa_pastSide A) ((pa_plies A)).toNatClampNeg (po_side Q)), (upd (pa_pastRights A) ((pa_plies A)).toNatClampNeg (po_rights Q)), (upd (pa_pastPassed A) ((pa_plies A)).toNatClampNeg (po_passed Q)), (pa_plies A)), ((0 : Int32), (ke_keyMoves K)))
      else none
    else none
  else none
def f_M_enter (fu : Nat) (Q : PoT) (A : PaT) (K : KeT) : Option (PaT × KeT) :=
  (l_M_enter_2 fu Q K fu (0 : Int32) A).bind fun az_1 =>
  j_M_enter_34 fu Q az_1 K
def b_M_goTo_2 (fu : Nat) (A : PaT) (x1 : Int32) (gg : Int32 → PoT → Option ((PoT))) (x2 : Int32) (Q : PoT) : Option ((PoT)) :=
  if (64 : Int32) ≤ x2 then
    some Q
  else
    if am_in (((64 : Int32) * x1) + x2) 576 = true then
      if am_in x2 64 = true then
        gg (x2 + (1 : Int32)) ((upd (po_men Q) (x2).toNatClampNeg ((pa_pastMen A) ((((64 : Int32) * x1) + x2)).toNatClampNeg)), (po_side Q), (po_rights Q), (po_passed Q), (po_clock Q))
      else none
    else none
def l_M_goTo_2 (fu : Nat) (A : PaT) (x1 : Int32) : Nat → Int32 → PoT → Option ((PoT))
  | 0 => fun _ _ => none
  | n + 1 => b_M_goTo_2 fu A x1 (l_M_goTo_2 fu A x1 n)
def j_M_goTo_31 (fu : Nat) (Q : PoT) (A : PaT) (x1 : Int32) : Option (PoT) :=
  if am_in x1 9 = true then
    if am_in x1 9 = true then
      if am_in x1 9 = true then
        some ((po_men Q), ((pa_pastSide A) (x1).toNatClampNeg), ((pa_pastRights A) (x1).toNatClampNeg), ((pa_pastPassed A) (x1).toNatClampNeg), (po_clock Q))
      else none
    else none
  else none
def f_M_goTo (fu : Nat) (x1 : Int32) (Q : PoT) (A : PaT) : Option (PoT) :=
  (l_M_goTo_2 fu A x1 fu (0 : Int32) Q).bind fun qz_1 =>
  j_M_goTo_31 fu qz_1 A x1
def f_M_moves (fu : Nat) (E : ThT) (Q : PoT) (U : UnT) (Y : LiT) : Option (Int32 × ThT × PoT × UnT × LiT) :=
  (f_M_list fu (0 : Int32) Q U Y).bind fun (r1, qg2, ug3, yg4) =>
  some (r1, (0 : Int32), qg2, ug3, yg4)
def j_M_move_21 (fu : Nat) (E : ThT) (Q : PoT) (U : UnT) (Y : LiT) (x1 : Int32) (s1 : Int32) : Option (Int32 × ThT × PoT × UnT × LiT) :=
  if s1 ≤ (0 : Int32) then
    if am_in x1 20480 = true then
      some (((li_lists Y) (x1).toNatClampNeg), s1, Q, U, Y)
    else none
  else
    some ((0 : Int32), s1, Q, U, Y)
def j_M_move_16 (fu : Nat) (E : ThT) (Q : PoT) (U : UnT) (Y : LiT) (x1 : Int32) : Option (Int32 × ThT × PoT × UnT × LiT) :=
  j_M_move_21 fu E Q U Y x1 (1 : Int32)
def f_M_move (fu : Nat) (x1 : Int32) (E : ThT) (Q : PoT) (U : UnT) (Y : LiT) : Option (Int32 × ThT × PoT × UnT × LiT) :=
  (f_M_list fu (0 : Int32) Q U Y).bind fun (r1, qg2, ug3, yg4) =>
  if x1 < (0 : Int32) then
    j_M_move_16 fu E qg2 ug3 yg4 x1
  else
    if x1 < r1 then
      j_M_move_21 fu E qg2 ug3 yg4 x1 (0 : Int32)
    else
      j_M_move_16 fu E qg2 ug3 yg4 x1
def j_M_play_37 (fu : Nat) (gg : Int32 → Int32 → Option ((Int32))) (E : ThT) (Q : PoT) (A : PaT) (U : UnT) (Y : LiT) (K : KeT) (x1 : Int32) (x2 : Int32) (x4 : Int32) (s0 : Int32) : Option ((Int32)) :=
  gg s0 (x4 + (1 : Int32))
def j_M_play_67 (fu : Nat) (E : ThT) (Q : PoT) (A : PaT) (U : UnT) (Y : LiT) (K : KeT) (x1 : Int32) (s1 : Int32) : Option (Int32 × ThT × PoT × PaT × UnT × LiT × KeT) :=
  if s1 ≤ (0 : Int32) then
    (f_M_make x1 (0 : Int32) Q U).bind fun (qg5, ug6) =>
    (f_M_enter fu qg5 ((pa_pastMen A), (pa_pastSide A), (pa_pastRights A), (pa_pastPassed A), ((pa_plies A) + (1 : Int32))) K).bind fun (ag7, kg8) =>
    some ((pa_plies ag7), s1, qg5, ag7, ug6, Y, kg8)
  else
    some ((0 : Int32), s1, Q, A, U, Y, K)
def j_M_play_44 (fu : Nat) (E : ThT) (Q : PoT) (A : PaT) (U : UnT) (Y : LiT) (K : KeT) (x1 : Int32) (x3 : Int32) : Option (Int32 × ThT × PoT × PaT × UnT × LiT × KeT) :=
  if ¬ x3 = (0 : Int32) then
    if ¬ (pa_plies A) = (8 : Int32) then
      j_M_play_67 fu E Q A U Y K x1 (0 : Int32)
    else
      j_M_play_67 fu E Q A U Y K x1 (2 : Int32)
  else
    j_M_play_67 fu E Q A U Y K x1 (1 : Int32)
def j_M_play_32 (fu : Nat) (gg : Int32 → Int32 → Option ((Int32))) (E : ThT) (Q : PoT) (A : PaT) (U : UnT) (Y : LiT) (K : KeT) (x1 : Int32) (x2 : Int32) (x4 : Int32) : Option ((Int32)) :=
  j_M_play_37 fu gg E Q A U Y K x1 x2 x4 (1 : Int32)
def b_M_play_11 (fu : Nat) (E : ThT) (Q : PoT) (A : PaT) (U : UnT) (Y : LiT) (K : KeT) (x1 : Int32) (x2 : Int32) (gg : Int32 → Int32 → Option ((Int32))) (x3 : Int32) (x4 : Int32) : Option ((Int32)) :=
  if x2 ≤ x4 then
    some x3
  else
    if ¬ x3 = (0 : Int32) then
      j_M_play_32 fu gg E Q A U Y K x1 x2 x4
    else
      if am_in x4 20480 = true then
        if ¬ ((li_lists Y) (x4).toNatClampNeg) = x1 then
          j_M_play_37 fu gg E Q A U Y K x1 x2 x4 (0 : Int32)
        else
          j_M_play_32 fu gg E Q A U Y K x1 x2 x4
      else none
def l_M_play_11 (fu : Nat) (E : ThT) (Q : PoT) (A : PaT) (U : UnT) (Y : LiT) (K : KeT) (x1 : Int32) (x2 : Int32) : Nat → Int32 → Int32 → Option ((Int32))
  | 0 => fun _ _ => none
  | n + 1 => b_M_play_11 fu E Q A U Y K x1 x2 (l_M_play_11 fu E Q A U Y K x1 x2 n)
def f_M_play (fu : Nat) (x1 : Int32) (E : ThT) (Q : PoT) (A : PaT) (U : UnT) (Y : LiT) (K : KeT) : Option (Int32 × ThT × PoT × PaT × UnT × LiT × KeT) :=
  (f_M_list fu (0 : Int32) Q U Y).bind fun (r1, qg2, ug3, yg4) =>
  (l_M_play_11 fu E qg2 A ug3 yg4 K x1 r1 fu (0 : Int32) (0 : Int32)).bind fun x3_1 =>
  j_M_play_44 fu E qg2 A ug3 yg4 K x1 x3_1
def j_M_back_13 (fu : Nat) (E : ThT) (Q : PoT) (A : PaT) (K : KeT) (s1 : Int32) : Option (Int32 × ThT × PoT × PaT × KeT) :=
  if s1 ≤ (0 : Int32) then
    (f_M_goTo fu ((pa_plies A) - (1 : Int32)) Q ((pa_pastMen A), (pa_pastSide A), (pa_pastRights A), (pa_pastPassed A), ((pa_plies A) - (1 : Int32)))).bind fun qg1 =>
    some (((pa_plies A) - (1 : Int32)), s1, qg1, ((pa_pastMen A), (pa_pastSide A), (pa_pastRights A), (pa_pastPassed A), ((pa_plies A) - (1 : Int32))), ((0 : Int32), (ke_keyMoves K)))
  else
    some ((0 : Int32), s1, Q, A, K)
def f_M_back (fu : Nat) (E : ThT) (Q : PoT) (A : PaT) (K : KeT) : Option (Int32 × ThT × PoT × PaT × KeT) :=
  if ¬ (pa_plies A) = (0 : Int32) then
    j_M_back_13 fu E Q A K (0 : Int32)
  else
    j_M_back_13 fu E Q A K (1 : Int32)
def f_M_beaten (fu : Nat) (E : ThT) (Q : PoT) (U : UnT) (Y : LiT) : Option (Int32 × ThT × PoT × UnT × LiT) :=
  (f_M_list fu (0 : Int32) Q U Y).bind fun (r1, qg2, ug3, yg4) =>
  if r1 ≤ (0 : Int32) then
    (f_M_inCheck fu (po_side qg2) qg2).bind fun r5 =>
    if r5 = (0 : Int32) then
      some ((2 : Int32), (0 : Int32), qg2, ug3, yg4)
    else
      some ((1 : Int32), (0 : Int32), qg2, ug3, yg4)
  else
    some ((0 : Int32), (0 : Int32), qg2, ug3, yg4)
def j_M_hasMove_95 (fu : Nat) (gg : Int32 → PoT → UnT → Option (Int32 × PoT × UnT)) (Q : PoT) (U : UnT) (x1 : Int32) : Option (Int32 × PoT × UnT) :=
  gg (x1 + (1 : Int32)) Q U
def j_M_hasMove_89 (fu : Nat) (gg : Int32 → PoT → UnT → Option (((PoT × UnT)) ⊕ (Int32 × PoT × UnT))) (Q : PoT) (U : UnT) (x1 : Int32) (l2 : Int64) (x4 : Int32) : Option (((PoT × UnT)) ⊕ (Int32 × PoT × UnT)) :=
  gg (x4 + (1 : Int32)) Q U
def b_M_hasMove_33 (fu : Nat) (x1 : Int32) (l2 : Int64) (gg : Int32 → PoT → UnT → Option (((PoT × UnT)) ⊕ (Int32 × PoT × UnT))) (x4 : Int32) (Q : PoT) (U : UnT) : Option (((PoT × UnT)) ⊕ (Int32 × PoT × UnT)) :=
  if (64 : Int32) ≤ x4 then
    some (.inl (Q, U))
  else
    if (lg_cmp (am_shr l2 x4) (0 : Int64)) = (0 : Int32) then
      some (.inl (Q, U))
    else
      if ¬ (lg_cmp ((am_shr l2 x4) &&& (1 : Int64)) (1 : Int64)) = (0 : Int32) then
        j_M_hasMove_89 fu gg Q U x1 l2 x4
      else
        (f_M_isOf x4 (po_side Q) Q).bind fun r3 =>
        if ¬ r3 = (0 : Int32) then
          j_M_hasMove_89 fu gg Q U x1 l2 x4
        else
          (f_M_isLegal fu (x1 + ((64 : Int32) * x4)) Q U).bind fun (r4, qg5, ug6) =>
          if r4 = (0 : Int32) then
            j_M_hasMove_89 fu gg qg5 ug6 x1 l2 x4
          else
            some (.inr ((1 : Int32), qg5, ug6))
def l_M_hasMove_33 (fu : Nat) (x1 : Int32) (l2 : Int64) : Nat → Int32 → PoT → UnT → Option (((PoT × UnT)) ⊕ (Int32 × PoT × UnT))
  | 0 => fun _ _ _ => none
  | n + 1 => b_M_hasMove_33 fu x1 l2 (l_M_hasMove_33 fu x1 l2 n)
def j_M_hasMove_29 (fu : Nat) (gg : Int32 → PoT → UnT → Option (Int32 × PoT × UnT)) (Q : PoT) (U : UnT) (x1 : Int32) (t0 : Int64) : Option (Int32 × PoT × UnT) :=
  (l_M_hasMove_33 fu x1 t0 fu (0 : Int32) Q U).bind fun z => match z with
  | .inl (qz_1, uz_1) =>
    j_M_hasMove_95 fu gg qz_1 uz_1 x1
  | .inr z => some z
def b_M_hasMove_2 (fu : Nat) (gg : Int32 → PoT → UnT → Option (Int32 × PoT × UnT)) (x1 : Int32) (Q : PoT) (U : UnT) : Option (Int32 × PoT × UnT) :=
  if (64 : Int32) ≤ x1 then
    some ((0 : Int32), Q, U)
  else
    (f_M_isOf x1 (po_side Q) Q).bind fun r1 =>
    if r1 = (0 : Int32) then
      j_M_hasMove_29 fu gg Q U x1 (0 : Int64)
    else
      (f_M_goals fu x1 Q).bind fun r2 =>
      j_M_hasMove_29 fu gg Q U x1 r2
def l_M_hasMove_2 (fu : Nat) : Nat → Int32 → PoT → UnT → Option (Int32 × PoT × UnT)
  | 0 => fun _ _ _ => none
  | n + 1 => b_M_hasMove_2 fu (l_M_hasMove_2 fu n)
def f_M_hasMove (fu : Nat) (Q : PoT) (U : UnT) : Option (Int32 × PoT × UnT) :=
  l_M_hasMove_2 fu fu (0 : Int32) Q U
def j_M_isBeaten_17 (fu : Nat) (Q : PoT) (U : UnT) (s0 : Int32) (s1 : Int32) : Option (Int32 × PoT × UnT) :=
  if ¬ s0 = s1 then
    some ((0 : Int32), Q, U)
  else
    (f_M_hasMove fu Q U).bind fun (r2, qg3, ug4) =>
    if ¬ r2 = (0 : Int32) then
      some ((0 : Int32), qg3, ug4)
    else
      some ((1 : Int32), qg3, ug4)
def f_M_isBeaten (fu : Nat) (x1 : Int32) (Q : PoT) (U : UnT) : Option (Int32 × PoT × UnT) :=
  (f_M_inCheck fu (po_side Q) Q).bind fun r1 =>
  if ¬ x1 = (0 : Int32) then
    j_M_isBeaten_17 fu Q U r1 (0 : Int32)
  else
    j_M_isBeaten_17 fu Q U r1 (1 : Int32)
def j_M_isAnswered_47 (fu : Nat) (cl_isSolved : Int32 → Int32 → Int32 → Int32 → PoT → UnT → LiT → Option (Int32 × PoT × UnT × LiT)) (cl_solves : Int32 → Int32 → Int32 → Int32 → Int32 → PoT → UnT → LiT → Option (Int32 × PoT × UnT × LiT)) (cl_isAnswered : Int32 → Int32 → Int32 → Int32 → Int32 → PoT → UnT → LiT → Option (Int32 × PoT × UnT × LiT)) (Q : PoT) (U : UnT) (Y : LiT) (x4 : Int32) (x5 : Int32) (s0 : Int32) : Option (Int32 × PoT × UnT × LiT) :=
  (f_M_takeBack x5 x4 Q U).bind fun qg10 =>
  some ((vp_nar .boolean s0), qg10, U, Y)
def j_M_isAnswered_42 (fu : Nat) (cl_isSolved : Int32 → Int32 → Int32 → Int32 → PoT → UnT → LiT → Option (Int32 × PoT × UnT × LiT)) (cl_solves : Int32 → Int32 → Int32 → Int32 → Int32 → PoT → UnT → LiT → Option (Int32 × PoT × UnT × LiT)) (cl_isAnswered : Int32 → Int32 → Int32 → Int32 → Int32 → PoT → UnT → LiT → Option (Int32 × PoT × UnT × LiT)) (Q : PoT) (U : UnT) (Y : LiT) (x4 : Int32) (x5 : Int32) : Option (Int32 × PoT × UnT × LiT) :=
  j_M_isAnswered_47 fu cl_isSolved cl_solves cl_isAnswered Q U Y x4 x5 (1 : Int32)
def j_M_isAnswered_46 (fu : Nat) (cl_isSolved : Int32 → Int32 → Int32 → Int32 → PoT → UnT → LiT → Option (Int32 × PoT × UnT × LiT)) (cl_solves : Int32 → Int32 → Int32 → Int32 → Int32 → PoT → UnT → LiT → Option (Int32 × PoT × UnT × LiT)) (cl_isAnswered : Int32 → Int32 → Int32 → Int32 → Int32 → PoT → UnT → LiT → Option (Int32 × PoT × UnT × LiT)) (Q : PoT) (U : UnT) (Y : LiT) (x4 : Int32) (x5 : Int32) : Option (Int32 × PoT × UnT × LiT) :=
  j_M_isAnswered_47 fu cl_isSolved cl_solves cl_isAnswered Q U Y x4 x5 (0 : Int32)
def j_M_isAnswered_21 (fu : Nat) (cl_isSolved : Int32 → Int32 → Int32 → Int32 → PoT → UnT → LiT → Option (Int32 × PoT × UnT × LiT)) (cl_solves : Int32 → Int32 → Int32 → Int32 → Int32 → PoT → UnT → LiT → Option (Int32 × PoT × UnT × LiT)) (cl_isAnswered : Int32 → Int32 → Int32 → Int32 → Int32 → PoT → UnT → LiT → Option (Int32 × PoT × UnT × LiT)) (Q : PoT) (U : UnT) (Y : LiT) (x1 : Int32) (x2 : Int32) (x3 : Int32) (x4 : Int32) (x5 : Int32) : Option (Int32 × PoT × UnT × LiT) :=
  if x3 ≤ (1 : Int32) then
    j_M_isAnswered_46 fu cl_isSolved cl_solves cl_isAnswered Q U Y x4 x5
  else
    (cl_isSolved x1 x2 (x3 - (1 : Int32)) (x4 + (1 : Int32)) Q U Y).bind fun (r6, qg7, ug8, yg9) =>
    if r6 = (0 : Int32) then
      j_M_isAnswered_46 fu cl_isSolved cl_solves cl_isAnswered qg7 ug8 yg9 x4 x5
    else
      j_M_isAnswered_42 fu cl_isSolved cl_solves cl_isAnswered qg7 ug8 yg9 x4 x5
def e_M_isAnswered (fu : Nat) (cl_isSolved : Int32 → Int32 → Int32 → Int32 → PoT → UnT → LiT → Option (Int32 × PoT × UnT × LiT)) (cl_solves : Int32 → Int32 → Int32 → Int32 → Int32 → PoT → UnT → LiT → Option (Int32 × PoT × UnT × LiT)) (cl_isAnswered : Int32 → Int32 → Int32 → Int32 → Int32 → PoT → UnT → LiT → Option (Int32 × PoT × UnT × LiT)) (x1 : Int32) (x2 : Int32) (x3 : Int32) (x4 : Int32) (x5 : Int32) (Q : PoT) (U : UnT) (Y : LiT) : Option (Int32 × PoT × UnT × LiT) :=
  (f_M_make x5 x4 Q U).bind fun (qg1, ug2) =>
  if ¬ x1 = (1 : Int32) then
    j_M_isAnswered_21 fu cl_isSolved cl_solves cl_isAnswered qg1 ug2 Y x1 x2 x3 x4 x5
  else
    (f_M_isBeaten fu x2 qg1 ug2).bind fun (r3, qg4, ug5) =>
    if ¬ r3 = (0 : Int32) then
      j_M_isAnswered_42 fu cl_isSolved cl_solves cl_isAnswered qg4 ug5 Y x4 x5
    else
      j_M_isAnswered_21 fu cl_isSolved cl_solves cl_isAnswered qg4 ug5 Y x1 x2 x3 x4 x5
def j_M_solves_113 (fu : Nat) (cl_isSolved : Int32 → Int32 → Int32 → Int32 → PoT → UnT → LiT → Option (Int32 × PoT × UnT × LiT)) (cl_solves : Int32 → Int32 → Int32 → Int32 → Int32 → PoT → UnT → LiT → Option (Int32 × PoT × UnT × LiT)) (cl_isAnswered : Int32 → Int32 → Int32 → Int32 → Int32 → PoT → UnT → LiT → Option (Int32 × PoT × UnT × LiT)) (Q : PoT) (U : UnT) (Y : LiT) (x4 : Int32) (x5 : Int32) (x6 : Int32) : Option (Int32 × PoT × UnT × LiT) :=
  (f_M_takeBack x5 x4 Q U).bind fun qg10 =>
  some ((vp_nar .boolean x6), qg10, U, Y)
def b_M_solves_66 (fu : Nat) (cl_isSolved : Int32 → Int32 → Int32 → Int32 → PoT → UnT → LiT → Option (Int32 × PoT × UnT × LiT)) (cl_solves : Int32 → Int32 → Int32 → Int32 → Int32 → PoT → UnT → LiT → Option (Int32 × PoT × UnT × LiT)) (cl_isAnswered : Int32 → Int32 → Int32 → Int32 → Int32 → PoT → UnT → LiT → Option (Int32 × PoT × UnT × LiT)) (x1 : Int32) (x2 : Int32) (x3 : Int32) (x4 : Int32) (x5 : Int32) (x7 : Int32) (gg : Int32 → Int32 → PoT → UnT → LiT → Option ((Int32 × PoT × UnT × LiT))) (x6 : Int32) (x8 : Int32) (Q : PoT) (U : UnT) (Y : LiT) : Option ((Int32 × PoT × UnT × LiT)) :=
  if x7 ≤ x8 then
    some (x6, Q, U, Y)
  else
    if x6 = (0 : Int32) then
      some (x6, Q, U, Y)
    else
      if am_in (((2048 : Int32) * (x4 + (1 : Int32))) + x8) 20480 = true then
        (cl_isAnswered x1 x2 x3 (x4 + (1 : Int32)) ((li_lists Y) ((((2048 : Int32) * (x4 + (1 : Int32))) + x8)).toNatClampNeg) Q U Y).bind fun (r11, qg12, ug13, yg14) =>
        gg r11 (x8 + (1 : Int32)) qg12 ug13 yg14
      else none
def l_M_solves_66 (fu : Nat) (cl_isSolved : Int32 → Int32 → Int32 → Int32 → PoT → UnT → LiT → Option (Int32 × PoT × UnT × LiT)) (cl_solves : Int32 → Int32 → Int32 → Int32 → Int32 → PoT → UnT → LiT → Option (Int32 × PoT × UnT × LiT)) (cl_isAnswered : Int32 → Int32 → Int32 → Int32 → Int32 → PoT → UnT → LiT → Option (Int32 × PoT × UnT × LiT)) (x1 : Int32) (x2 : Int32) (x3 : Int32) (x4 : Int32) (x5 : Int32) (x7 : Int32) : Nat → Int32 → Int32 → PoT → UnT → LiT → Option ((Int32 × PoT × UnT × LiT))
  | 0 => fun _ _ _ _ _ => none
  | n + 1 => b_M_solves_66 fu cl_isSolved cl_solves cl_isAnswered x1 x2 x3 x4 x5 x7 (l_M_solves_66 fu cl_isSolved cl_solves cl_isAnswered x1 x2 x3 x4 x5 x7 n)
def j_M_solves_53 (fu : Nat) (cl_isSolved : Int32 → Int32 → Int32 → Int32 → PoT → UnT → LiT → Option (Int32 × PoT × UnT × LiT)) (cl_solves : Int32 → Int32 → Int32 → Int32 → Int32 → PoT → UnT → LiT → Option (Int32 × PoT × UnT × LiT)) (cl_isAnswered : Int32 → Int32 → Int32 → Int32 → Int32 → PoT → UnT → LiT → Option (Int32 × PoT × UnT × LiT)) (Q : PoT) (U : UnT) (Y : LiT) (x1 : Int32) (x2 : Int32) (x3 : Int32) (x4 : Int32) (x5 : Int32) (x6 : Int32) (s0 : Int32) : Option (Int32 × PoT × UnT × LiT) :=
  if s0 ≤ (0 : Int32) then
    j_M_solves_113 fu cl_isSolved cl_solves cl_isAnswered Q U Y x4 x5 x6
  else
    (l_M_solves_66 fu cl_isSolved cl_solves cl_isAnswered x1 x2 x3 x4 x5 s0 fu (1 : Int32) (0 : Int32) Q U Y).bind fun (x6_1, qz_1, uz_1, yz_1) =>
    j_M_solves_113 fu cl_isSolved cl_solves cl_isAnswered qz_1 uz_1 yz_1 x4 x5 x6_1
def j_M_solves_41 (fu : Nat) (cl_isSolved : Int32 → Int32 → Int32 → Int32 → PoT → UnT → LiT → Option (Int32 × PoT × UnT × LiT)) (cl_solves : Int32 → Int32 → Int32 → Int32 → Int32 → PoT → UnT → LiT → Option (Int32 × PoT × UnT × LiT)) (cl_isAnswered : Int32 → Int32 → Int32 → Int32 → Int32 → PoT → UnT → LiT → Option (Int32 × PoT × UnT × LiT)) (Q : PoT) (U : UnT) (Y : LiT) (x1 : Int32) (x2 : Int32) (x3 : Int32) (x4 : Int32) (x5 : Int32) (x6 : Int32) : Option (Int32 × PoT × UnT × LiT) :=
  j_M_solves_53 fu cl_isSolved cl_solves cl_isAnswered Q U Y x1 x2 x3 x4 x5 x6 (0 : Int32)
def j_M_solves_45 (fu : Nat) (cl_isSolved : Int32 → Int32 → Int32 → Int32 → PoT → UnT → LiT → Option (Int32 × PoT × UnT × LiT)) (cl_solves : Int32 → Int32 → Int32 → Int32 → Int32 → PoT → UnT → LiT → Option (Int32 × PoT × UnT × LiT)) (cl_isAnswered : Int32 → Int32 → Int32 → Int32 → Int32 → PoT → UnT → LiT → Option (Int32 × PoT × UnT × LiT)) (Q : PoT) (U : UnT) (Y : LiT) (x1 : Int32) (x2 : Int32) (x3 : Int32) (x4 : Int32) (x5 : Int32) (x6 : Int32) : Option (Int32 × PoT × UnT × LiT) :=
  (f_M_list fu (x4 + (1 : Int32)) Q U Y).bind fun (r6, qg7, ug8, yg9) =>
  j_M_solves_53 fu cl_isSolved cl_solves cl_isAnswered qg7 ug8 yg9 x1 x2 x3 x4 x5 x6 r6
def j_M_solves_25 (fu : Nat) (cl_isSolved : Int32 → Int32 → Int32 → Int32 → PoT → UnT → LiT → Option (Int32 × PoT × UnT × LiT)) (cl_solves : Int32 → Int32 → Int32 → Int32 → Int32 → PoT → UnT → LiT → Option (Int32 × PoT × UnT × LiT)) (cl_isAnswered : Int32 → Int32 → Int32 → Int32 → Int32 → PoT → UnT → LiT → Option (Int32 × PoT × UnT × LiT)) (Q : PoT) (U : UnT) (Y : LiT) (x1 : Int32) (x2 : Int32) (x3 : Int32) (x4 : Int32) (x5 : Int32) (s0 : Int32) : Option (Int32 × PoT × UnT × LiT) :=
  if ¬ s0 = (0 : Int32) then
    j_M_solves_41 fu cl_isSolved cl_solves cl_isAnswered Q U Y x1 x2 x3 x4 x5 s0
  else
    if ¬ x1 = (0 : Int32) then
      j_M_solves_45 fu cl_isSolved cl_solves cl_isAnswered Q U Y x1 x2 x3 x4 x5 s0
    else
      if ¬ x3 = (1 : Int32) then
        j_M_solves_45 fu cl_isSolved cl_solves cl_isAnswered Q U Y x1 x2 x3 x4 x5 s0
      else
        j_M_solves_41 fu cl_isSolved cl_solves cl_isAnswered Q U Y x1 x2 x3 x4 x5 s0
def j_M_solves_24 (fu : Nat) (cl_isSolved : Int32 → Int32 → Int32 → Int32 → PoT → UnT → LiT → Option (Int32 × PoT × UnT × LiT)) (cl_solves : Int32 → Int32 → Int32 → Int32 → Int32 → PoT → UnT → LiT → Option (Int32 × PoT × UnT × LiT)) (cl_isAnswered : Int32 → Int32 → Int32 → Int32 → Int32 → PoT → UnT → LiT → Option (Int32 × PoT × UnT × LiT)) (Q : PoT) (U : UnT) (Y : LiT) (x1 : Int32) (x2 : Int32) (x3 : Int32) (x4 : Int32) (x5 : Int32) : Option (Int32 × PoT × UnT × LiT) :=
  j_M_solves_25 fu cl_isSolved cl_solves cl_isAnswered Q U Y x1 x2 x3 x4 x5 (0 : Int32)
def e_M_solves (fu : Nat) (cl_isSolved : Int32 → Int32 → Int32 → Int32 → PoT → UnT → LiT → Option (Int32 × PoT × UnT × LiT)) (cl_solves : Int32 → Int32 → Int32 → Int32 → Int32 → PoT → UnT → LiT → Option (Int32 × PoT × UnT × LiT)) (cl_isAnswered : Int32 → Int32 → Int32 → Int32 → Int32 → PoT → UnT → LiT → Option (Int32 × PoT × UnT × LiT)) (x1 : Int32) (x2 : Int32) (x3 : Int32) (x4 : Int32) (x5 : Int32) (Q : PoT) (U : UnT) (Y : LiT) : Option (Int32 × PoT × UnT × LiT) :=
  (f_M_make x5 x4 Q U).bind fun (qg1, ug2) =>
  if ¬ x1 = (0 : Int32) then
    j_M_solves_24 fu cl_isSolved cl_solves cl_isAnswered qg1 ug2 Y x1 x2 x3 x4 x5
  else
    (f_M_isBeaten fu x2 qg1 ug2).bind fun (r3, qg4, ug5) =>
    if r3 = (0 : Int32) then
      j_M_solves_24 fu cl_isSolved cl_solves cl_isAnswered qg4 ug5 Y x1 x2 x3 x4 x5
    else
      j_M_solves_25 fu cl_isSolved cl_solves cl_isAnswered qg4 ug5 Y x1 x2 x3 x4 x5 (1 : Int32)
def b_M_isSolved_14 (fu : Nat) (cl_isSolved : Int32 → Int32 → Int32 → Int32 → PoT → UnT → LiT → Option (Int32 × PoT × UnT × LiT)) (cl_solves : Int32 → Int32 → Int32 → Int32 → Int32 → PoT → UnT → LiT → Option (Int32 × PoT × UnT × LiT)) (cl_isAnswered : Int32 → Int32 → Int32 → Int32 → Int32 → PoT → UnT → LiT → Option (Int32 × PoT × UnT × LiT)) (x1 : Int32) (x2 : Int32) (x3 : Int32) (x4 : Int32) (x5 : Int32) (gg : Int32 → Int32 → PoT → UnT → LiT → Option (Int32 × PoT × UnT × LiT)) (x6 : Int32) (x7 : Int32) (Q : PoT) (U : UnT) (Y : LiT) : Option (Int32 × PoT × UnT × LiT) :=
  if x5 ≤ x7 then
    some ((vp_nar .boolean x6), Q, U, Y)
  else
    if x3 ≤ (0 : Int32) then
      some ((vp_nar .boolean x6), Q, U, Y)
    else
      if ¬ x6 = (0 : Int32) then
        some ((vp_nar .boolean x6), Q, U, Y)
      else
        if am_in (((2048 : Int32) * x4) + x7) 20480 = true then
          (cl_solves x1 x2 x3 x4 ((li_lists Y) ((((2048 : Int32) * x4) + x7)).toNatClampNeg) Q U Y).bind fun (r5, qg6, ug7, yg8) =>
          gg r5 (x7 + (1 : Int32)) qg6 ug7 yg8
        else none
def l_M_isSolved_14 (fu : Nat) (cl_isSolved : Int32 → Int32 → Int32 → Int32 → PoT → UnT → LiT → Option (Int32 × PoT × UnT × LiT)) (cl_solves : Int32 → Int32 → Int32 → Int32 → Int32 → PoT → UnT → LiT → Option (Int32 × PoT × UnT × LiT)) (cl_isAnswered : Int32 → Int32 → Int32 → Int32 → Int32 → PoT → UnT → LiT → Option (Int32 × PoT × UnT × LiT)) (x1 : Int32) (x2 : Int32) (x3 : Int32) (x4 : Int32) (x5 : Int32) : Nat → Int32 → Int32 → PoT → UnT → LiT → Option (Int32 × PoT × UnT × LiT)
  | 0 => fun _ _ _ _ _ => none
  | n + 1 => b_M_isSolved_14 fu cl_isSolved cl_solves cl_isAnswered x1 x2 x3 x4 x5 (l_M_isSolved_14 fu cl_isSolved cl_solves cl_isAnswered x1 x2 x3 x4 x5 n)
def e_M_isSolved (fu : Nat) (cl_isSolved : Int32 → Int32 → Int32 → Int32 → PoT → UnT → LiT → Option (Int32 × PoT × UnT × LiT)) (cl_solves : Int32 → Int32 → Int32 → Int32 → Int32 → PoT → UnT → LiT → Option (Int32 × PoT × UnT × LiT)) (cl_isAnswered : Int32 → Int32 → Int32 → Int32 → Int32 → PoT → UnT → LiT → Option (Int32 × PoT × UnT × LiT)) (x1 : Int32) (x2 : Int32) (x3 : Int32) (x4 : Int32) (Q : PoT) (U : UnT) (Y : LiT) : Option (Int32 × PoT × UnT × LiT) :=
  (f_M_list fu x4 Q U Y).bind fun (r1, qg2, ug3, yg4) =>
  l_M_isSolved_14 fu cl_isSolved cl_solves cl_isAnswered x1 x2 x3 x4 r1 fu (0 : Int32) (0 : Int32) qg2 ug3 yg4
def g_M_isSolved (fu : Nat) : Nat → (Int32 → Int32 → Int32 → Int32 → PoT → UnT → LiT → Option (Int32 × PoT × UnT × LiT)) × (Int32 → Int32 → Int32 → Int32 → Int32 → PoT → UnT → LiT → Option (Int32 × PoT × UnT × LiT)) × (Int32 → Int32 → Int32 → Int32 → Int32 → PoT → UnT → LiT → Option (Int32 × PoT × UnT × LiT))
  | 0 => (fun _ _ _ _ _ _ _ => none, fun _ _ _ _ _ _ _ _ => none, fun _ _ _ _ _ _ _ _ => none)
  | d + 1 => (e_M_isSolved fu (g_M_isSolved fu d).1 (g_M_isSolved fu d).2.1 (g_M_isSolved fu d).2.2, e_M_solves fu (g_M_isSolved fu d).1 (g_M_isSolved fu d).2.1 (g_M_isSolved fu d).2.2, e_M_isAnswered fu (g_M_isSolved fu d).1 (g_M_isSolved fu d).2.1 (g_M_isSolved fu d).2.2)
def f_M_isSolved (fu : Nat) : Int32 → Int32 → Int32 → Int32 → PoT → UnT → LiT → Option (Int32 × PoT × UnT × LiT) := (g_M_isSolved fu 12).1
def f_M_solves (fu : Nat) : Int32 → Int32 → Int32 → Int32 → Int32 → PoT → UnT → LiT → Option (Int32 × PoT × UnT × LiT) := (g_M_isSolved fu 12).2.1
def f_M_isAnswered (fu : Nat) : Int32 → Int32 → Int32 → Int32 → Int32 → PoT → UnT → LiT → Option (Int32 × PoT × UnT × LiT) := (g_M_isSolved fu 12).2.2

def j_M_isProblem_18 (x2 : Int32) : Option (Int32) :=
  if x2 < (1 : Int32) then
    some (0 : Int32)
  else
    if (3 : Int32) < x2 then
      some (0 : Int32)
    else
      some (1 : Int32)
def j_M_isProblem_9 (x1 : Int32) (x2 : Int32) : Option (Int32) :=
  if x1 = (0 : Int32) then
    j_M_isProblem_18 x2
  else
    if ¬ x1 = (1 : Int32) then
      some (0 : Int32)
    else
      j_M_isProblem_18 x2
def f_M_isProblem (x0 : Int32) (x1 : Int32) (x2 : Int32) : Option (Int32) :=
  if x0 = (0 : Int32) then
    j_M_isProblem_9 x1 x2
  else
    if ¬ x0 = (1 : Int32) then
      some (0 : Int32)
    else
      j_M_isProblem_9 x1 x2
def j_M_keys_92 (fu : Nat) (gg : Int32 → PoT → UnT → LiT → KeT → Option (Int32 × ThT × PoT × UnT × LiT × KeT)) (E : ThT) (Q : PoT) (U : UnT) (Y : LiT) (K : KeT) (x1 : Int32) (x2 : Int32) (x3 : Int32) (x4 : Int32) (x5 : Int32) : Option (Int32 × ThT × PoT × UnT × LiT × KeT) :=
  gg (x5 + (1 : Int32)) Q U Y K
def b_M_keys_42 (fu : Nat) (E : ThT) (x1 : Int32) (x2 : Int32) (x3 : Int32) (x4 : Int32) (gg : Int32 → PoT → UnT → LiT → KeT → Option (Int32 × ThT × PoT × UnT × LiT × KeT)) (x5 : Int32) (Q : PoT) (U : UnT) (Y : LiT) (K : KeT) : Option (Int32 × ThT × PoT × UnT × LiT × KeT) :=
  if x4 ≤ x5 then
    some ((ke_keyCount K), E, Q, U, Y, K)
  else
    if am_in x5 20480 = true then
      (f_M_solves fu x1 x2 x3 (0 : Int32) ((li_lists Y) (x5).toNatClampNeg) Q U Y).bind fun (r6, qg7, ug8, yg9) =>
      if r6 = (0 : Int32) then
        j_M_keys_92 fu gg E qg7 ug8 yg9 K x1 x2 x3 x4 x5
      else
        if am_in (ke_keyCount K) 2048 = true then
          j_M_keys_92 fu gg E qg7 ug8 yg9 (((ke_keyCount K) + (1 : Int32)), (upd (ke_keyMoves K) ((ke_keyCount K)).toNatClampNeg ((li_lists Y) (x5).toNatClampNeg))) x1 x2 x3 x4 x5
        else none
    else none
def l_M_keys_42 (fu : Nat) (E : ThT) (x1 : Int32) (x2 : Int32) (x3 : Int32) (x4 : Int32) : Nat → Int32 → PoT → UnT → LiT → KeT → Option (Int32 × ThT × PoT × UnT × LiT × KeT)
  | 0 => fun _ _ _ _ _ => none
  | n + 1 => b_M_keys_42 fu E x1 x2 x3 x4 (l_M_keys_42 fu E x1 x2 x3 x4 n)
def j_M_keys_15 (fu : Nat) (E : ThT) (Q : PoT) (U : UnT) (Y : LiT) (K : KeT) (x1 : Int32) (x2 : Int32) (x3 : Int32) (s1 : Int32) : Option (Int32 × ThT × PoT × UnT × LiT × KeT) :=
  if s1 ≤ (0 : Int32) then
    (f_M_list fu (0 : Int32) Q U Y).bind fun (r2, qg3, ug4, yg5) =>
    l_M_keys_42 fu s1 x1 x2 x3 r2 fu (0 : Int32) qg3 ug4 yg5 ((0 : Int32), (ke_keyMoves K))
  else
    some ((0 : Int32), s1, Q, U, Y, K)
def f_M_keys (fu : Nat) (x1 : Int32) (x2 : Int32) (x3 : Int32) (E : ThT) (Q : PoT) (U : UnT) (Y : LiT) (K : KeT) : Option (Int32 × ThT × PoT × UnT × LiT × KeT) :=
  (f_M_isProblem x1 x2 x3).bind fun r1 =>
  if r1 = (0 : Int32) then
    j_M_keys_15 fu E Q U Y K x1 x2 x3 (1 : Int32)
  else
    j_M_keys_15 fu E Q U Y K x1 x2 x3 (0 : Int32)
def j_M_key_18 (E : ThT) (K : KeT) (x1 : Int32) (s1 : Int32) : Option (Int32 × ThT) :=
  if s1 ≤ (0 : Int32) then
    if am_in x1 2048 = true then
      some (((ke_keyMoves K) (x1).toNatClampNeg), s1)
    else none
  else
    some ((0 : Int32), s1)
def j_M_key_13 (E : ThT) (K : KeT) (x1 : Int32) : Option (Int32 × ThT) :=
  j_M_key_18 E K x1 (1 : Int32)
def f_M_key (x1 : Int32) (E : ThT) (K : KeT) : Option (Int32 × ThT) :=
  if x1 < (0 : Int32) then
    j_M_key_13 E K x1
  else
    if x1 < (ke_keyCount K) then
      j_M_key_18 E K x1 (0 : Int32)
    else
      j_M_key_13 E K x1
def j_M_least_60 (fu : Nat) (gg : Int32 → Int32 → PoT → UnT → LiT → Option (Int32 × ThT × PoT × UnT × LiT)) (E : ThT) (Q : PoT) (U : UnT) (Y : LiT) (x1 : Int32) (x2 : Int32) (x3 : Int32) (x5 : Int32) (s0 : Int32) : Option (Int32 × ThT × PoT × UnT × LiT) :=
  gg s0 (x5 + (1 : Int32)) Q U Y
def b_M_least_24 (fu : Nat) (E : ThT) (x1 : Int32) (x2 : Int32) (x3 : Int32) (gg : Int32 → Int32 → PoT → UnT → LiT → Option (Int32 × ThT × PoT × UnT × LiT)) (x4 : Int32) (x5 : Int32) (Q : PoT) (U : UnT) (Y : LiT) : Option (Int32 × ThT × PoT × UnT × LiT) :=
  if x3 < x5 then
    some (x4, E, Q, U, Y)
  else
    if ¬ E = (0 : Int32) then
      some (x4, E, Q, U, Y)
    else
      if ¬ x4 = (0 : Int32) then
        some (x4, E, Q, U, Y)
      else
        (f_M_isSolved fu x1 x2 x5 (0 : Int32) Q U Y).bind fun (r2, qg3, ug4, yg5) =>
        if r2 = (0 : Int32) then
          j_M_least_60 fu gg E qg3 ug4 yg5 x1 x2 x3 x5 (0 : Int32)
        else
          j_M_least_60 fu gg E qg3 ug4 yg5 x1 x2 x3 x5 x5
def l_M_least_24 (fu : Nat) (E : ThT) (x1 : Int32) (x2 : Int32) (x3 : Int32) : Nat → Int32 → Int32 → PoT → UnT → LiT → Option (Int32 × ThT × PoT × UnT × LiT)
  | 0 => fun _ _ _ _ _ => none
  | n + 1 => b_M_least_24 fu E x1 x2 x3 (l_M_least_24 fu E x1 x2 x3 n)
def j_M_least_15 (fu : Nat) (E : ThT) (Q : PoT) (U : UnT) (Y : LiT) (x1 : Int32) (x2 : Int32) (x3 : Int32) (s1 : Int32) : Option (Int32 × ThT × PoT × UnT × LiT) :=
  l_M_least_24 fu s1 x1 x2 x3 fu (0 : Int32) (1 : Int32) Q U Y
def f_M_least (fu : Nat) (x1 : Int32) (x2 : Int32) (x3 : Int32) (E : ThT) (Q : PoT) (U : UnT) (Y : LiT) : Option (Int32 × ThT × PoT × UnT × LiT) :=
  (f_M_isProblem x1 x2 x3).bind fun r1 =>
  if r1 = (0 : Int32) then
    j_M_least_15 fu E Q U Y x1 x2 x3 (1 : Int32)
  else
    j_M_least_15 fu E Q U Y x1 x2 x3 (0 : Int32)
def j_M_refuted_160 (fu : Nat) (E : ThT) (Q : PoT) (U : UnT) (Y : LiT) (x5 : Int32) (x7 : Int32) : Option (Int32 × ThT × PoT × UnT × LiT) :=
  (f_M_takeBack x5 (0 : Int32) Q U).bind fun qg20 =>
  some (x7, E, qg20, U, Y)
def j_M_refuted_152 (fu : Nat) (gg : Int32 → Int32 → PoT → UnT → LiT → Option ((Int32 × PoT × UnT × LiT))) (E : ThT) (Q : PoT) (U : UnT) (Y : LiT) (x1 : Int32) (x2 : Int32) (x3 : Int32) (x5 : Int32) (x6 : Int32) (x8 : Int32) (s0 : Int32) : Option ((Int32 × PoT × UnT × LiT)) :=
  gg s0 (x8 + (1 : Int32)) Q U Y
def b_M_refuted_105 (fu : Nat) (E : ThT) (x1 : Int32) (x2 : Int32) (x3 : Int32) (x5 : Int32) (x6 : Int32) (gg : Int32 → Int32 → PoT → UnT → LiT → Option ((Int32 × PoT × UnT × LiT))) (x7 : Int32) (x8 : Int32) (Q : PoT) (U : UnT) (Y : LiT) : Option ((Int32 × PoT × UnT × LiT)) :=
  if x6 ≤ x8 then
    some (x7, Q, U, Y)
  else
    if ¬ x7 = (-2 : Int32) then
      some (x7, Q, U, Y)
    else
      if am_in ((2048 : Int32) + x8) 20480 = true then
        (f_M_isAnswered fu x1 x2 x3 (1 : Int32) ((li_lists Y) (((2048 : Int32) + x8)).toNatClampNeg) Q U Y).bind fun (r16, qg17, ug18, yg19) =>
        if r16 = (0 : Int32) then
          j_M_refuted_152 fu gg E qg17 ug18 yg19 x1 x2 x3 x5 x6 x8 ((li_lists Y) (((2048 : Int32) + x8)).toNatClampNeg)
        else
          j_M_refuted_152 fu gg E qg17 ug18 yg19 x1 x2 x3 x5 x6 x8 (-2 : Int32)
      else none
def l_M_refuted_105 (fu : Nat) (E : ThT) (x1 : Int32) (x2 : Int32) (x3 : Int32) (x5 : Int32) (x6 : Int32) : Nat → Int32 → Int32 → PoT → UnT → LiT → Option ((Int32 × PoT × UnT × LiT))
  | 0 => fun _ _ _ _ _ => none
  | n + 1 => b_M_refuted_105 fu E x1 x2 x3 x5 x6 (l_M_refuted_105 fu E x1 x2 x3 x5 x6 n)
def j_M_refuted_48 (fu : Nat) (E : ThT) (Q : PoT) (U : UnT) (Y : LiT) (x1 : Int32) (x2 : Int32) (x3 : Int32) (x4 : Int32) (s1 : Int32) : Option (Int32 × ThT × PoT × UnT × LiT) :=
  if s1 ≤ (0 : Int32) then
    if am_in x4 20480 = true then
      (f_M_solves fu x1 x2 x3 (0 : Int32) ((li_lists Y) (x4).toNatClampNeg) Q U Y).bind fun (r6, qg7, ug8, yg9) =>
      if r6 = (0 : Int32) then
        (f_M_make ((li_lists Y) (x4).toNatClampNeg) (0 : Int32) qg7 ug8).bind fun (qg10, ug11) =>
        (f_M_list fu (1 : Int32) qg10 ug11 yg9).bind fun (r12, qg13, ug14, yg15) =>
        (l_M_refuted_105 fu s1 x1 x2 x3 ((li_lists Y) (x4).toNatClampNeg) r12 fu (-2 : Int32) (0 : Int32) qg13 ug14 yg15).bind fun (x7_1, qz_1, uz_1, yz_1) =>
        j_M_refuted_160 fu s1 qz_1 uz_1 yz_1 ((li_lists Y) (x4).toNatClampNeg) x7_1
      else
        some ((-1 : Int32), s1, qg7, ug8, yg9)
    else none
  else
    some ((0 : Int32), s1, Q, U, Y)
def j_M_refuted_43 (fu : Nat) (E : ThT) (Q : PoT) (U : UnT) (Y : LiT) (x1 : Int32) (x2 : Int32) (x3 : Int32) (x4 : Int32) : Option (Int32 × ThT × PoT × UnT × LiT) :=
  j_M_refuted_48 fu E Q U Y x1 x2 x3 x4 (2 : Int32)
def j_M_refuted_15 (fu : Nat) (E : ThT) (Q : PoT) (U : UnT) (Y : LiT) (x1 : Int32) (x2 : Int32) (x3 : Int32) (x4 : Int32) (s1 : Int32) : Option (Int32 × ThT × PoT × UnT × LiT) :=
  if s1 ≤ (0 : Int32) then
    if x4 < (0 : Int32) then
      j_M_refuted_43 fu s1 Q U Y x1 x2 x3 x4
    else
      (f_M_list fu (0 : Int32) Q U Y).bind fun (r2, qg3, ug4, yg5) =>
      if x4 < r2 then
        j_M_refuted_48 fu s1 qg3 ug4 yg5 x1 x2 x3 x4 (0 : Int32)
      else
        j_M_refuted_43 fu s1 qg3 ug4 yg5 x1 x2 x3 x4
  else
    some ((0 : Int32), s1, Q, U, Y)
def f_M_refuted (fu : Nat) (x1 : Int32) (x2 : Int32) (x3 : Int32) (x4 : Int32) (E : ThT) (Q : PoT) (U : UnT) (Y : LiT) : Option (Int32 × ThT × PoT × UnT × LiT) :=
  (f_M_isProblem x1 x2 x3).bind fun r1 =>
  if r1 = (0 : Int32) then
    j_M_refuted_15 fu E Q U Y x1 x2 x3 x4 (1 : Int32)
  else
    j_M_refuted_15 fu E Q U Y x1 x2 x3 x4 (0 : Int32)
def b_M_countLines_110 (fu : Nat) (cl_countLines : Int32 → Int32 → Int32 → PoT → UnT → LiT → HlT → Option (Int32 × PoT × UnT × LiT × HlT)) (x1 : Int32) (x2 : Int32) (x3 : Int32) (x5 : Int32) (gg : Int32 → Int32 → PoT → UnT → LiT → HlT → Option (Int32 × PoT × UnT × LiT × HlT)) (x4 : Int32) (x6 : Int32) (Q : PoT) (U : UnT) (Y : LiT) (H : HlT) : Option (Int32 × PoT × UnT × LiT × HlT) :=
  if x5 ≤ x6 then
    some (x4, Q, U, Y, H)
  else
    if am_in (((2048 : Int32) * x3) + x6) 20480 = true then
      if am_in x3 4 = true then
        (f_M_make ((li_lists Y) ((((2048 : Int32) * x3) + x6)).toNatClampNeg) x3 Q U).bind fun (qg8, ug9) =>
        (cl_countLines x1 (x2 - (1 : Int32)) (x3 + (1 : Int32)) qg8 ug9 Y ((hl_before H), (hl_met H), (hl_helpLine H), (upd (hl_tried H) (x3).toNatClampNeg ((li_lists Y) ((((2048 : Int32) * x3) + x6)).toNatClampNeg)))).bind fun (r10, qg11, ug12, yg13, hg14) =>
        (f_M_takeBack ((li_lists Y) ((((2048 : Int32) * x3) + x6)).toNatClampNeg) x3 qg11 ug12).bind fun qg15 =>
        gg (x4 + r10) (x6 + (1 : Int32)) qg15 ug12 yg13 hg14
      else none
    else none
def l_M_countLines_110 (fu : Nat) (cl_countLines : Int32 → Int32 → Int32 → PoT → UnT → LiT → HlT → Option (Int32 × PoT × UnT × LiT × HlT)) (x1 : Int32) (x2 : Int32) (x3 : Int32) (x5 : Int32) : Nat → Int32 → Int32 → PoT → UnT → LiT → HlT → Option (Int32 × PoT × UnT × LiT × HlT)
  | 0 => fun _ _ _ _ _ _ => none
  | n + 1 => b_M_countLines_110 fu cl_countLines x1 x2 x3 x5 (l_M_countLines_110 fu cl_countLines x1 x2 x3 x5 n)
def b_M_countLines_38 (fu : Nat) (cl_countLines : Int32 → Int32 → Int32 → PoT → UnT → LiT → HlT → Option (Int32 × PoT × UnT × LiT × HlT)) (Q : PoT) (U : UnT) (Y : LiT) (x3 : Int32) (x4 : Int32) (gg : Int32 → HlT → Option ((HlT))) (x5 : Int32) (H : HlT) : Option ((HlT)) :=
  if x3 ≤ x5 then
    some H
  else
    if am_in x5 4 = true then
      if am_in x5 4 = true then
        gg (x5 + (1 : Int32)) ((hl_before H), (hl_met H), (upd (hl_helpLine H) (x5).toNatClampNeg ((hl_tried H) (x5).toNatClampNeg)), (hl_tried H))
      else none
    else none
def l_M_countLines_38 (fu : Nat) (cl_countLines : Int32 → Int32 → Int32 → PoT → UnT → LiT → HlT → Option (Int32 × PoT × UnT × LiT × HlT)) (Q : PoT) (U : UnT) (Y : LiT) (x3 : Int32) (x4 : Int32) : Nat → Int32 → HlT → Option ((HlT))
  | 0 => fun _ _ => none
  | n + 1 => b_M_countLines_38 fu cl_countLines Q U Y x3 x4 (l_M_countLines_38 fu cl_countLines Q U Y x3 x4 n)
def j_M_countLines_83 (fu : Nat) (cl_countLines : Int32 → Int32 → Int32 → PoT → UnT → LiT → HlT → Option (Int32 × PoT × UnT × LiT × HlT)) (Q : PoT) (U : UnT) (Y : LiT) (H : HlT) (x4 : Int32) (s1 : Int32) : Option (Int32 × PoT × UnT × LiT × HlT) :=
  if x4 = (0 : Int32) then
    some ((0 : Int32), Q, U, Y, (s1, (hl_met H), (hl_helpLine H), (hl_tried H)))
  else
    some ((1 : Int32), Q, U, Y, (s1, (hl_met H), (hl_helpLine H), (hl_tried H)))
def j_M_countLines_64 (fu : Nat) (cl_countLines : Int32 → Int32 → Int32 → PoT → UnT → LiT → HlT → Option (Int32 × PoT × UnT × LiT × HlT)) (Q : PoT) (U : UnT) (Y : LiT) (H : HlT) (x4 : Int32) : Option (Int32 × PoT × UnT × LiT × HlT) :=
  if x4 = (0 : Int32) then
    j_M_countLines_83 fu cl_countLines Q U Y H x4 (hl_before H)
  else
    j_M_countLines_83 fu cl_countLines Q U Y H x4 ((hl_before H) - (1 : Int32))
def e_M_countLines (fu : Nat) (cl_countLines : Int32 → Int32 → Int32 → PoT → UnT → LiT → HlT → Option (Int32 × PoT × UnT × LiT × HlT)) (x1 : Int32) (x2 : Int32) (x3 : Int32) (Q : PoT) (U : UnT) (Y : LiT) (H : HlT) : Option (Int32 × PoT × UnT × LiT × HlT) :=
  if ¬ x2 = (0 : Int32) then
    (f_M_list fu x3 Q U Y).bind fun (r1, qg2, ug3, yg4) =>
    l_M_countLines_110 fu cl_countLines x1 x2 x3 r1 fu (0 : Int32) (0 : Int32) qg2 ug3 yg4 H
  else
    (f_M_isBeaten fu x1 Q U).bind fun (r5, qg6, ug7) =>
    if r5 = (0 : Int32) then
      j_M_countLines_64 fu cl_countLines qg6 ug7 Y H r5
    else
      if ¬ (hl_before H) = (0 : Int32) then
        j_M_countLines_64 fu cl_countLines qg6 ug7 Y H r5
      else
        if ¬ (hl_met H) = (0 : Int32) then
          j_M_countLines_64 fu cl_countLines qg6 ug7 Y H r5
        else
          (l_M_countLines_38 fu cl_countLines qg6 ug7 Y x3 r5 fu (0 : Int32) ((hl_before H), (1 : Int32), (hl_helpLine H), (hl_tried H))).bind fun hz_1 =>
          j_M_countLines_64 fu cl_countLines qg6 ug7 Y hz_1 r5
def g_M_countLines (fu : Nat) : Nat → (Int32 → Int32 → Int32 → PoT → UnT → LiT → HlT → Option (Int32 × PoT × UnT × LiT × HlT))
  | 0 => fun _ _ _ _ _ _ _ => none
  | d + 1 => e_M_countLines fu (g_M_countLines fu d)
def f_M_countLines (fu : Nat) : Int32 → Int32 → Int32 → PoT → UnT → LiT → HlT → Option (Int32 × PoT × UnT × LiT × HlT) := (g_M_countLines fu 12)

def j_M_isHelp_9 (x1 : Int32) : Option (Int32) :=
  if x1 = (1 : Int32) then
    some (1 : Int32)
  else
    if ¬ x1 = (2 : Int32) then
      some (0 : Int32)
    else
      some (1 : Int32)
def f_M_isHelp (x0 : Int32) (x1 : Int32) : Option (Int32) :=
  if x0 = (0 : Int32) then
    j_M_isHelp_9 x1
  else
    if ¬ x0 = (1 : Int32) then
      some (0 : Int32)
    else
      j_M_isHelp_9 x1
def j_M_lines_14 (fu : Nat) (E : ThT) (Q : PoT) (U : UnT) (Y : LiT) (H : HlT) (x1 : Int32) (x2 : Int32) (s1 : Int32) : Option (Int32 × ThT × PoT × UnT × LiT × HlT) :=
  if s1 ≤ (0 : Int32) then
    (f_M_countLines fu x1 ((2 : Int32) * x2) (0 : Int32) Q U Y ((-1 : Int32), (0 : Int32), (hl_helpLine H), (hl_tried H))).bind fun (r2, qg3, ug4, yg5, hg6) =>
    some (r2, s1, qg3, ug4, yg5, hg6)
  else
    some ((0 : Int32), s1, Q, U, Y, ((-1 : Int32), (0 : Int32), (hl_helpLine H), (hl_tried H)))
def f_M_lines (fu : Nat) (x1 : Int32) (x2 : Int32) (E : ThT) (Q : PoT) (U : UnT) (Y : LiT) (H : HlT) : Option (Int32 × ThT × PoT × UnT × LiT × HlT) :=
  (f_M_isHelp x1 x2).bind fun r1 =>
  if r1 = (0 : Int32) then
    j_M_lines_14 fu E Q U Y H x1 x2 (1 : Int32)
  else
    j_M_lines_14 fu E Q U Y H x1 x2 (0 : Int32)
def j_M_line_76 (fu : Nat) (E : ThT) (Q : PoT) (U : UnT) (Y : LiT) (H : HlT) (x4 : Int32) (s1 : Int32) : Option (Int32 × ThT × PoT × UnT × LiT × HlT) :=
  if s1 ≤ (0 : Int32) then
    if am_in x4 4 = true then
      some (((hl_helpLine H) (x4).toNatClampNeg), s1, Q, U, Y, H)
    else none
  else
    some ((0 : Int32), s1, Q, U, Y, H)
def j_M_line_71 (fu : Nat) (E : ThT) (Q : PoT) (U : UnT) (Y : LiT) (H : HlT) (x4 : Int32) : Option (Int32 × ThT × PoT × UnT × LiT × HlT) :=
  j_M_line_76 fu E Q U Y H x4 (2 : Int32)
def j_M_line_14 (fu : Nat) (E : ThT) (Q : PoT) (U : UnT) (Y : LiT) (H : HlT) (x1 : Int32) (x2 : Int32) (x3 : Int32) (x4 : Int32) (s1 : Int32) : Option (Int32 × ThT × PoT × UnT × LiT × HlT) :=
  if s1 ≤ (0 : Int32) then
    (f_M_countLines fu x1 ((2 : Int32) * x2) (0 : Int32) Q U Y (x3, (0 : Int32), (hl_helpLine H), (hl_tried H))).bind fun (r2, qg3, ug4, yg5, hg6) =>
    if x3 < (0 : Int32) then
      j_M_line_71 fu s1 qg3 ug4 yg5 hg6 x4
    else
      if r2 ≤ x3 then
        j_M_line_71 fu s1 qg3 ug4 yg5 hg6 x4
      else
        if x4 < (0 : Int32) then
          j_M_line_71 fu s1 qg3 ug4 yg5 hg6 x4
        else
          if x4 < ((2 : Int32) * x2) then
            j_M_line_76 fu s1 qg3 ug4 yg5 hg6 x4 (0 : Int32)
          else
            j_M_line_71 fu s1 qg3 ug4 yg5 hg6 x4
  else
    some ((0 : Int32), s1, Q, U, Y, H)
def f_M_line (fu : Nat) (x1 : Int32) (x2 : Int32) (x3 : Int32) (x4 : Int32) (E : ThT) (Q : PoT) (U : UnT) (Y : LiT) (H : HlT) : Option (Int32 × ThT × PoT × UnT × LiT × HlT) :=
  (f_M_isHelp x1 x2).bind fun r1 =>
  if r1 = (0 : Int32) then
    j_M_line_14 fu E Q U Y H x1 x2 x3 x4 (1 : Int32)
  else
    j_M_line_14 fu E Q U Y H x1 x2 x3 x4 (0 : Int32)
def b_M_type_32 (fu : Nat) (E : ThT) (G : RtT) (l1 : Int64) (x3 : Int32) (gg : Int32 → Option (((Unit)) ⊕ (Int32 × ThT × RtT))) (x4 : Int32) : Option (((Unit)) ⊕ (Int32 × ThT × RtT)) :=
  if x3 ≤ x4 then
    some (.inl ())
  else
    if (lg_cmp ((am_shr l1 ((8 : Int32) * x4)) &&& (255 : Int64)) (32 : Int64)) < (0 : Int32) then
      some (.inr ((0 : Int32), E, G))
    else
      if (lg_cmp ((am_shr l1 ((8 : Int32) * x4)) &&& (255 : Int64)) (126 : Int64)) ≤ (0 : Int32) then
        gg (x4 + (1 : Int32))
      else
        some (.inr ((0 : Int32), E, G))
def l_M_type_32 (fu : Nat) (E : ThT) (G : RtT) (l1 : Int64) (x3 : Int32) : Nat → Int32 → Option (((Unit)) ⊕ (Int32 × ThT × RtT))
  | 0 => fun _ => none
  | n + 1 => b_M_type_32 fu E G l1 x3 (l_M_type_32 fu E G l1 x3 n)
def b_M_type_80 (fu : Nat) (E : ThT) (l1 : Int64) (x3 : Int32) (gg : Int32 → RtT → Option (Int32 × ThT × RtT)) (x4 : Int32) (G : RtT) : Option (Int32 × ThT × RtT) :=
  if x3 ≤ x4 then
    some ((1 : Int32), E, G)
  else
    if am_in (rt_typed G) 100 = true then
      gg (x4 + (1 : Int32)) ((upd (rt_text G) ((rt_typed G)).toNatClampNeg (vp_nar .char (am_i2c (((am_shr l1 ((8 : Int32) * x4)) &&& (255 : Int64))).toInt32))), ((rt_typed G) + (1 : Int32)))
    else none
def l_M_type_80 (fu : Nat) (E : ThT) (l1 : Int64) (x3 : Int32) : Nat → Int32 → RtT → Option (Int32 × ThT × RtT)
  | 0 => fun _ _ => none
  | n + 1 => b_M_type_80 fu E l1 x3 (l_M_type_80 fu E l1 x3 n)
def j_M_type_77 (fu : Nat) (E : ThT) (G : RtT) (l1 : Int64) (x3 : Int32) : Option (Int32 × ThT × RtT) :=
  l_M_type_80 fu E l1 x3 fu (0 : Int32) G
def f_M_type (fu : Nat) (l1 : Int64) (x3 : Int32) (E : ThT) (G : RtT) : Option (Int32 × ThT × RtT) :=
  if x3 < (1 : Int32) then
    some ((0 : Int32), (0 : Int32), G)
  else
    if (8 : Int32) < x3 then
      some ((0 : Int32), (0 : Int32), G)
    else
      if ((rt_typed G) + x3) ≤ (100 : Int32) then
        (l_M_type_32 fu (0 : Int32) G l1 x3 fu (0 : Int32)).bind fun z => match z with
        | .inl () =>
          j_M_type_77 fu (0 : Int32) G l1 x3
        | .inr z => some z
      else
        some ((0 : Int32), (0 : Int32), G)
def f_M_cut (x1 : Int32) (E : ThT) (G : RtT) : Option (Int32 × ThT × RtT) :=
  if x1 < (0 : Int32) then
    some ((0 : Int32), (0 : Int32), G)
  else
    if x1 ≤ (rt_typed G) then
      some ((1 : Int32), (0 : Int32), ((rt_text G), x1))
    else
      some ((0 : Int32), (0 : Int32), G)
def f_M_sign (x1 : Int32) (G : RtT) : Option (Int32) :=
  if (rt_typed G) ≤ x1 then
    some (0 : Int32)
  else
    if am_in x1 100 = true then
      some (vp_nar .char ((rt_text G) (x1).toNatClampNeg))
    else none
def j_M_letter_70 (x0 : Int32) (x1 : Int32) : Option (Int32) :=
  if (8 : Int32) ≤ x0 then
    some (vp_nar .char (am_i2c (x1 + (32 : Int32))))
  else
    some (vp_nar .char x1)
def f_M_letter (x0 : Int32) : Option (Int32) :=
  (f_M_kind x0).bind fun r1 =>
  if r1 = (2 : Int32) then
    j_M_letter_70 x0 (78 : Int32)
  else if r1 = (3 : Int32) then
    j_M_letter_70 x0 (66 : Int32)
  else if r1 = (4 : Int32) then
    j_M_letter_70 x0 (82 : Int32)
  else if r1 = (5 : Int32) then
    j_M_letter_70 x0 (81 : Int32)
  else if r1 = (6 : Int32) then
    j_M_letter_70 x0 (75 : Int32)
  else j_M_letter_70 x0 (80 : Int32)
def j_M_manOf_39 (fu : Nat) (gg : Int32 → Int32 → Option (Int32)) (x0 : Int32) (x2 : Int32) (s0 : Int32) : Option (Int32) :=
  gg s0 (x2 + (1 : Int32))
def j_M_manOf_38 (fu : Nat) (gg : Int32 → Int32 → Option (Int32)) (x0 : Int32) (x1 : Int32) (x2 : Int32) : Option (Int32) :=
  j_M_manOf_39 fu gg x0 x2 x1
def b_M_manOf_4 (fu : Nat) (x0 : Int32) (gg : Int32 → Int32 → Option (Int32)) (x1 : Int32) (x2 : Int32) : Option (Int32) :=
  if (15 : Int32) ≤ x2 then
    some x1
  else
    (f_M_kind x2).bind fun r1 =>
    if r1 ≤ (0 : Int32) then
      j_M_manOf_38 fu gg x0 x1 x2
    else
      (f_M_kind x2).bind fun r2 =>
      if (7 : Int32) ≤ r2 then
        j_M_manOf_38 fu gg x0 x1 x2
      else
        (f_M_letter x2).bind fun r3 =>
        if ¬ r3 = x0 then
          j_M_manOf_38 fu gg x0 x1 x2
        else
          j_M_manOf_39 fu gg x0 x2 x2
def l_M_manOf_4 (fu : Nat) (x0 : Int32) : Nat → Int32 → Int32 → Option (Int32)
  | 0 => fun _ _ => none
  | n + 1 => b_M_manOf_4 fu x0 (l_M_manOf_4 fu x0 n)
def f_M_manOf (fu : Nat) (x0 : Int32) : Option (Int32) :=
  l_M_manOf_4 fu x0 fu (0 : Int32) (1 : Int32)
def b_M_readMen_66 (fu : Nat) (G : RtT) (x1 : Int32) (x2 : Int32) (x3 : Int32) (x5 : Int32) (gg : Int32 → PoT → Option ((PoT))) (x6 : Int32) (Q : PoT) : Option ((PoT)) :=
  if (x5 - (48 : Int32)) ≤ x6 then
    some Q
  else
    if am_in ((((8 : Int32) * x2) + x3) + x6) 64 = true then
      gg (x6 + (1 : Int32)) ((upd (po_men Q) (((((8 : Int32) * x2) + x3) + x6)).toNatClampNeg (0 : Int32)), (po_side Q), (po_rights Q), (po_passed Q), (po_clock Q))
    else none
def l_M_readMen_66 (fu : Nat) (G : RtT) (x1 : Int32) (x2 : Int32) (x3 : Int32) (x5 : Int32) : Nat → Int32 → PoT → Option ((PoT))
  | 0 => fun _ _ => none
  | n + 1 => b_M_readMen_66 fu G x1 x2 x3 x5 (l_M_readMen_66 fu G x1 x2 x3 x5 n)
def j_M_readMen_163 (fu : Nat) (gg : Int32 → Int32 → PoT → Option (Int32 × PoT)) (G : RtT) (Q : PoT) (x1 : Int32) (x2 : Int32) (s0 : Int32) (s1 : Int32) : Option (Int32 × PoT) :=
  if s0 = s1 then
    gg (x1 + (1 : Int32)) (x2 + (-1 : Int32)) Q
  else
    some ((-1 : Int32), Q)
def j_M_readMen_144 (fu : Nat) (gg : Int32 → Int32 → Int32 → PoT → Option (((Int32 × PoT)) ⊕ (Int32 × PoT))) (G : RtT) (Q : PoT) (x1 : Int32) (x2 : Int32) (x3 : Int32) (x4 : Int32) : Option (((Int32 × PoT)) ⊕ (Int32 × PoT)) :=
  gg x1 x3 x4 Q
def j_M_readMen_97 (fu : Nat) (gg : Int32 → Int32 → Int32 → PoT → Option (((Int32 × PoT)) ⊕ (Int32 × PoT))) (G : RtT) (Q : PoT) (x1 : Int32) (x2 : Int32) (x3 : Int32) (x5 : Int32) : Option (((Int32 × PoT)) ⊕ (Int32 × PoT)) :=
  j_M_readMen_144 fu gg G Q x1 x2 ((x3 + x5) - (48 : Int32)) (1 : Int32)
def j_M_readMen_147 (fu : Nat) (gg : Int32 → Int32 → PoT → Option (Int32 × PoT)) (G : RtT) (Q : PoT) (x1 : Int32) (x2 : Int32) : Option (Int32 × PoT) :=
  (f_M_sign x1 G).bind fun r2 =>
  if x2 ≤ (0 : Int32) then
    j_M_readMen_163 fu gg G Q x1 x2 r2 (32 : Int32)
  else
    j_M_readMen_163 fu gg G Q x1 x2 r2 (47 : Int32)
def j_M_readMen_111 (fu : Nat) (gg : Int32 → Int32 → Int32 → PoT → Option (((Int32 × PoT)) ⊕ (Int32 × PoT))) (G : RtT) (Q : PoT) (x1 : Int32) (x2 : Int32) (x3 : Int32) (x5 : Int32) : Option (((Int32 × PoT)) ⊕ (Int32 × PoT)) :=
  (f_M_manOf fu x5).bind fun r3 =>
  if ¬ r3 = (0 : Int32) then
    if am_in (((8 : Int32) * x2) + x3) 64 = true then
      j_M_readMen_144 fu gg G ((upd (po_men Q) ((((8 : Int32) * x2) + x3)).toNatClampNeg r3), (po_side Q), (po_rights Q), (po_passed Q), (po_clock Q)) x1 x2 (x3 + (1 : Int32)) (0 : Int32)
    else none
  else
    some (.inr ((-1 : Int32), Q))
def b_M_readMen_14 (fu : Nat) (G : RtT) (x2 : Int32) (gg : Int32 → Int32 → Int32 → PoT → Option (((Int32 × PoT)) ⊕ (Int32 × PoT))) (x1 : Int32) (x3 : Int32) (x4 : Int32) (Q : PoT) : Option (((Int32 × PoT)) ⊕ (Int32 × PoT)) :=
  if (8 : Int32) ≤ x3 then
    some (.inl (x1, Q))
  else
    (f_M_sign x1 G).bind fun r1 =>
    if r1 < (49 : Int32) then
      j_M_readMen_111 fu gg G Q (x1 + (1 : Int32)) x2 x3 r1
    else
      if (56 : Int32) < r1 then
        j_M_readMen_111 fu gg G Q (x1 + (1 : Int32)) x2 x3 r1
      else
        if ¬ x4 = (0 : Int32) then
          some (.inr ((-1 : Int32), Q))
        else
          if ((x3 + r1) - (48 : Int32)) ≤ (8 : Int32) then
            (l_M_readMen_66 fu G (x1 + (1 : Int32)) x2 x3 r1 fu (0 : Int32) Q).bind fun qz_1 =>
            j_M_readMen_97 fu gg G qz_1 (x1 + (1 : Int32)) x2 x3 r1
          else
            some (.inr ((-1 : Int32), Q))
def l_M_readMen_14 (fu : Nat) (G : RtT) (x2 : Int32) : Nat → Int32 → Int32 → Int32 → PoT → Option (((Int32 × PoT)) ⊕ (Int32 × PoT))
  | 0 => fun _ _ _ _ => none
  | n + 1 => b_M_readMen_14 fu G x2 (l_M_readMen_14 fu G x2 n)
def b_M_readMen_5 (fu : Nat) (G : RtT) (gg : Int32 → Int32 → PoT → Option (Int32 × PoT)) (x1 : Int32) (x2 : Int32) (Q : PoT) : Option (Int32 × PoT) :=
  if x2 < (0 : Int32) then
    some ((x1 - (1 : Int32)), Q)
  else
    (l_M_readMen_14 fu G x2 fu x1 (0 : Int32) (0 : Int32) Q).bind fun z => match z with
    | .inl (x1_1, qz_1) =>
      j_M_readMen_147 fu gg G qz_1 x1_1 x2
    | .inr z => some z
def l_M_readMen_5 (fu : Nat) (G : RtT) : Nat → Int32 → Int32 → PoT → Option (Int32 × PoT)
  | 0 => fun _ _ _ => none
  | n + 1 => b_M_readMen_5 fu G (l_M_readMen_5 fu G n)
def f_M_readMen (fu : Nat) (G : RtT) (Q : PoT) : Option (Int32 × PoT) :=
  l_M_readMen_5 fu G fu (0 : Int32) (7 : Int32) Q
def b_M_numberAt_4 (fu : Nat) (G : RtT) (x1 : Int32) (gg : Int32 → Int32 → Option ((Int32 × Int32))) (x2 : Int32) (x3 : Int32) : Option ((Int32 × Int32)) :=
  if (x1 + (4 : Int32)) ≤ x3 then
    some (x2, x3)
  else
    (f_M_sign x3 G).bind fun r1 =>
    if r1 < (48 : Int32) then
      some (x2, x3)
    else
      (f_M_sign x3 G).bind fun r2 =>
      if (57 : Int32) < r2 then
        some (x2, x3)
      else
        (f_M_sign x3 G).bind fun r3 =>
        gg ((((10 : Int32) * x2) + r3) - (48 : Int32)) (x3 + (1 : Int32))
def l_M_numberAt_4 (fu : Nat) (G : RtT) (x1 : Int32) : Nat → Int32 → Int32 → Option ((Int32 × Int32))
  | 0 => fun _ _ => none
  | n + 1 => b_M_numberAt_4 fu G x1 (l_M_numberAt_4 fu G x1 n)
def j_M_numberAt_51 (fu : Nat) (G : RtT) (x1 : Int32) (x2 : Int32) (x3 : Int32) : Option (Int32) :=
  if x3 = x1 then
    some (-1 : Int32)
  else
    if (x1 + (3 : Int32)) < x3 then
      some (-1 : Int32)
    else
      if x3 ≤ (x1 + (1 : Int32)) then
        some x2
      else
        (f_M_sign x1 G).bind fun r4 =>
        if ¬ r4 = (48 : Int32) then
          some x2
        else
          some (-1 : Int32)
def f_M_numberAt (fu : Nat) (x1 : Int32) (G : RtT) : Option (Int32) :=
  (l_M_numberAt_4 fu G x1 fu (0 : Int32) x1).bind fun (x2_1, x3_1) =>
  j_M_numberAt_51 fu G x1 x2_1 x3_1
def f_M_lengthOf (x0 : Int32) : Option (Int32) :=
  if (10 : Int32) ≤ x0 then
    if (100 : Int32) ≤ x0 then
      some (3 : Int32)
    else
      some (2 : Int32)
  else
    some (1 : Int32)
def j_M_readRest_248 (fu : Nat) (G : RtT) (Q : PoT) (N : NuT) (x2 : Int32) : Option (Int32 × PoT × NuT) :=
  (f_M_sign x2 G).bind fun r10 =>
  if r10 = (32 : Int32) then
    (f_M_numberAt fu (x2 + (1 : Int32)) G).bind fun r11 =>
    if (0 : Int32) ≤ r11 then
      (f_M_lengthOf r11).bind fun r12 =>
      (f_M_sign ((x2 + (1 : Int32)) + r12) G).bind fun r13 =>
      if r13 = (32 : Int32) then
        (f_M_numberAt fu (((x2 + (1 : Int32)) + r12) + (1 : Int32)) G).bind fun r14 =>
        if r14 ≤ (0 : Int32) then
          some ((0 : Int32), ((po_men Q), (po_side Q), (po_rights Q), (po_passed Q), r11), r14)
        else
          (f_M_lengthOf r14).bind fun r15 =>
          if ¬ ((((x2 + (1 : Int32)) + r12) + (1 : Int32)) + r15) = (rt_typed G) then
            some ((0 : Int32), ((po_men Q), (po_side Q), (po_rights Q), (po_passed Q), r11), r14)
          else
            some ((1 : Int32), ((po_men Q), (po_side Q), (po_rights Q), (po_passed Q), r11), r14)
      else
        some ((0 : Int32), ((po_men Q), (po_side Q), (po_rights Q), (po_passed Q), r11), N)
    else
      some ((0 : Int32), ((po_men Q), (po_side Q), (po_rights Q), (po_passed Q), r11), N)
  else
    some ((0 : Int32), Q, N)
def j_M_readRest_147 (fu : Nat) (gg : Int32 → Int32 → PoT → Option ((Int32 × PoT))) (G : RtT) (Q : PoT) (N : NuT) (x2 : Int32) (x4 : Int32) : Option ((Int32 × PoT)) :=
  gg x2 (x4 + (1 : Int32)) Q
def j_M_readRest_162 (fu : Nat) (G : RtT) (Q : PoT) (N : NuT) (x2 : Int32) : Option (Int32 × PoT × NuT) :=
  (f_M_sign x2 G).bind fun r4 =>
  if r4 = (32 : Int32) then
    (f_M_sign (x2 + (1 : Int32)) G).bind fun r5 =>
    if ¬ r5 = (45 : Int32) then
      (f_M_sign (x2 + (1 : Int32)) G).bind fun r6 =>
      (f_M_sign ((x2 + (1 : Int32)) + (1 : Int32)) G).bind fun r7 =>
      (f_M_isOn (r6 - (97 : Int32)) (r7 - (49 : Int32))).bind fun r8 =>
      if ¬ r8 = (0 : Int32) then
        j_M_readRest_248 fu G ((po_men Q), (po_side Q), (po_rights Q), (((8 : Int32) * (r7 - (49 : Int32))) + (r6 - (97 : Int32))), (po_clock Q)) N ((x2 + (1 : Int32)) + (2 : Int32))
      else
        some ((0 : Int32), ((po_men Q), (po_side Q), (po_rights Q), (-1 : Int32), (po_clock Q)), N)
    else
      j_M_readRest_248 fu G ((po_men Q), (po_side Q), (po_rights Q), (-1 : Int32), (po_clock Q)) N ((x2 + (1 : Int32)) + (1 : Int32))
  else
    some ((0 : Int32), Q, N)
def j_M_readRest_153 (fu : Nat) (G : RtT) (Q : PoT) (N : NuT) (x2 : Int32) : Option (Int32 × PoT × NuT) :=
  if ¬ (po_rights Q) = (0 : Int32) then
    j_M_readRest_162 fu G Q N x2
  else
    some ((0 : Int32), Q, N)
def j_M_readRest_119 (fu : Nat) (gg : Int32 → Int32 → PoT → Option ((Int32 × PoT))) (G : RtT) (Q : PoT) (N : NuT) (x2 : Int32) (x4 : Int32) (s0 : Int32) : Option ((Int32 × PoT)) :=
  (f_M_sign x2 G).bind fun r9 =>
  if ¬ r9 = s0 then
    j_M_readRest_147 fu gg G Q N x2 x4
  else
    j_M_readRest_147 fu gg G ((po_men Q), (po_side Q), ((po_rights Q) ||| ((1 : Int32) <<< (x4 &&& 31))), (po_passed Q), (po_clock Q)) N (x2 + (1 : Int32)) x4
def b_M_readRest_79 (fu : Nat) (G : RtT) (N : NuT) (gg : Int32 → Int32 → PoT → Option ((Int32 × PoT))) (x2 : Int32) (x4 : Int32) (Q : PoT) : Option ((Int32 × PoT)) :=
  if (4 : Int32) ≤ x4 then
    some (x2, Q)
  else
    if ¬ x4 = (0 : Int32) then
      if ¬ x4 = (1 : Int32) then
        if ¬ x4 = (2 : Int32) then
          j_M_readRest_119 fu gg G Q N x2 x4 (113 : Int32)
        else
          j_M_readRest_119 fu gg G Q N x2 x4 (107 : Int32)
      else
        j_M_readRest_119 fu gg G Q N x2 x4 (81 : Int32)
    else
      j_M_readRest_119 fu gg G Q N x2 x4 (75 : Int32)
def l_M_readRest_79 (fu : Nat) (G : RtT) (N : NuT) : Nat → Int32 → Int32 → PoT → Option ((Int32 × PoT))
  | 0 => fun _ _ _ => none
  | n + 1 => b_M_readRest_79 fu G N (l_M_readRest_79 fu G N n)
def j_M_readRest_48 (fu : Nat) (G : RtT) (Q : PoT) (N : NuT) (x2 : Int32) (s1 : Int32) : Option (Int32 × PoT × NuT) :=
  (f_M_sign (x2 + (2 : Int32)) G).bind fun r3 =>
  if ¬ r3 = (45 : Int32) then
    (l_M_readRest_79 fu G N fu (x2 + (2 : Int32)) (0 : Int32) ((po_men Q), s1, (0 : Int32), (po_passed Q), (po_clock Q))).bind fun (x2_1, qz_1) =>
    j_M_readRest_153 fu G qz_1 N x2_1
  else
    j_M_readRest_162 fu G ((po_men Q), s1, (0 : Int32), (po_passed Q), (po_clock Q)) N ((x2 + (2 : Int32)) + (1 : Int32))
def j_M_readRest_22 (fu : Nat) (G : RtT) (Q : PoT) (N : NuT) (x2 : Int32) (x3 : Int32) : Option (Int32 × PoT × NuT) :=
  (f_M_sign (x2 + (1 : Int32)) G).bind fun r2 =>
  if r2 = (32 : Int32) then
    if ¬ x3 = (119 : Int32) then
      j_M_readRest_48 fu G Q N x2 (1 : Int32)
    else
      j_M_readRest_48 fu G Q N x2 (0 : Int32)
  else
    some ((0 : Int32), Q, N)
def f_M_readRest (fu : Nat) (x1 : Int32) (G : RtT) (Q : PoT) (N : NuT) : Option (Int32 × PoT × NuT) :=
  (f_M_sign (x1 + (1 : Int32)) G).bind fun r1 =>
  if r1 = (119 : Int32) then
    j_M_readRest_22 fu G Q N (x1 + (1 : Int32)) r1
  else
    if ¬ r1 = (98 : Int32) then
      some ((0 : Int32), Q, N)
    else
      j_M_readRest_22 fu G Q N (x1 + (1 : Int32)) r1
def j_M_countOf_27 (fu : Nat) (gg : Int32 → Int32 → Option (Int32)) (Q : PoT) (x1 : Int32) (x3 : Int32) (s0 : Int32) : Option (Int32) :=
  gg s0 (x3 + (1 : Int32))
def b_M_countOf_4 (fu : Nat) (Q : PoT) (x1 : Int32) (gg : Int32 → Int32 → Option (Int32)) (x2 : Int32) (x3 : Int32) : Option (Int32) :=
  if (64 : Int32) ≤ x3 then
    some x2
  else
    if am_in x3 64 = true then
      if ¬ ((po_men Q) (x3).toNatClampNeg) = x1 then
        j_M_countOf_27 fu gg Q x1 x3 x2
      else
        j_M_countOf_27 fu gg Q x1 x3 (x2 + (1 : Int32))
    else none
def l_M_countOf_4 (fu : Nat) (Q : PoT) (x1 : Int32) : Nat → Int32 → Int32 → Option (Int32)
  | 0 => fun _ _ => none
  | n + 1 => b_M_countOf_4 fu Q x1 (l_M_countOf_4 fu Q x1 n)
def f_M_countOf (fu : Nat) (x1 : Int32) (Q : PoT) : Option (Int32) :=
  l_M_countOf_4 fu Q x1 fu (0 : Int32) (0 : Int32)
def j_M_hasPawnAtEnd_48 (fu : Nat) (gg : Int32 → Int32 → Option (Int32)) (Q : PoT) (x2 : Int32) (s0 : Int32) : Option (Int32) :=
  gg s0 (x2 + (1 : Int32))
def j_M_hasPawnAtEnd_43 (fu : Nat) (gg : Int32 → Int32 → Option (Int32)) (Q : PoT) (x2 : Int32) : Option (Int32) :=
  j_M_hasPawnAtEnd_48 fu gg Q x2 (1 : Int32)
def b_M_hasPawnAtEnd_4 (fu : Nat) (Q : PoT) (gg : Int32 → Int32 → Option (Int32)) (x1 : Int32) (x2 : Int32) : Option (Int32) :=
  if (8 : Int32) ≤ x2 then
    some (vp_nar .boolean x1)
  else
    if ¬ x1 = (0 : Int32) then
      j_M_hasPawnAtEnd_43 fu gg Q x2
    else
      if am_in x2 64 = true then
        (f_M_kind ((po_men Q) (x2).toNatClampNeg)).bind fun r1 =>
        if r1 = (1 : Int32) then
          j_M_hasPawnAtEnd_43 fu gg Q x2
        else
          if am_in ((56 : Int32) + x2) 64 = true then
            (f_M_kind ((po_men Q) (((56 : Int32) + x2)).toNatClampNeg)).bind fun r2 =>
            if ¬ r2 = (1 : Int32) then
              j_M_hasPawnAtEnd_48 fu gg Q x2 (0 : Int32)
            else
              j_M_hasPawnAtEnd_43 fu gg Q x2
          else none
      else none
def l_M_hasPawnAtEnd_4 (fu : Nat) (Q : PoT) : Nat → Int32 → Int32 → Option (Int32)
  | 0 => fun _ _ => none
  | n + 1 => b_M_hasPawnAtEnd_4 fu Q (l_M_hasPawnAtEnd_4 fu Q n)
def f_M_hasPawnAtEnd (fu : Nat) (Q : PoT) : Option (Int32) :=
  l_M_hasPawnAtEnd_4 fu Q fu (0 : Int32) (0 : Int32)
def j_M_isRightWrong_106 (fu : Nat) (gg : Int32 → Int32 → Option (Int32)) (Q : PoT) (x2 : Int32) (s0 : Int32) : Option (Int32) :=
  gg s0 (x2 + (1 : Int32))
def j_M_isRightWrong_101 (fu : Nat) (gg : Int32 → Int32 → Option (Int32)) (Q : PoT) (x2 : Int32) : Option (Int32) :=
  j_M_isRightWrong_106 fu gg Q x2 (1 : Int32)
def j_M_isRightWrong_105 (fu : Nat) (gg : Int32 → Int32 → Option (Int32)) (Q : PoT) (x2 : Int32) : Option (Int32) :=
  j_M_isRightWrong_106 fu gg Q x2 (0 : Int32)
def j_M_isRightWrong_78 (fu : Nat) (gg : Int32 → Int32 → Option (Int32)) (Q : PoT) (x1 : Int32) (x2 : Int32) (s0 : Int32) : Option (Int32) :=
  if ¬ x1 = (0 : Int32) then
    j_M_isRightWrong_101 fu gg Q x2
  else
    if ¬ (((po_rights Q) >>> (x2 &&& 31)) &&& (1 : Int32)) = (1 : Int32) then
      j_M_isRightWrong_105 fu gg Q x2
    else
      if ¬ s0 = (0 : Int32) then
        j_M_isRightWrong_105 fu gg Q x2
      else
        j_M_isRightWrong_101 fu gg Q x2
def j_M_isRightWrong_77 (fu : Nat) (gg : Int32 → Int32 → Option (Int32)) (Q : PoT) (x1 : Int32) (x2 : Int32) : Option (Int32) :=
  j_M_isRightWrong_78 fu gg Q x1 x2 (0 : Int32)
def j_M_isRightWrong_37 (fu : Nat) (gg : Int32 → Int32 → Option (Int32)) (Q : PoT) (x1 : Int32) (x2 : Int32) (x3 : Int32) (x4 : Int32) (s0 : Int32) (s1 : Int32) : Option (Int32) :=
  if am_in x4 64 = true then
    if ¬ ((po_men Q) (x4).toNatClampNeg) = ((6 : Int32) + ((8 : Int32) * x3)) then
      j_M_isRightWrong_77 fu gg Q x1 x2
    else
      if am_in (s0 + s1) 64 = true then
        if ¬ ((po_men Q) ((s0 + s1)).toNatClampNeg) = ((4 : Int32) + ((8 : Int32) * x3)) then
          j_M_isRightWrong_77 fu gg Q x1 x2
        else
          j_M_isRightWrong_78 fu gg Q x1 x2 (1 : Int32)
      else none
  else none
def b_M_isRightWrong_4 (fu : Nat) (Q : PoT) (gg : Int32 → Int32 → Option (Int32)) (x1 : Int32) (x2 : Int32) : Option (Int32) :=
  if (4 : Int32) ≤ x2 then
    some (vp_nar .boolean x1)
  else
    if ¬ (x2 - x2 / (2 : Int32) * (2 : Int32)) = (0 : Int32) then
      j_M_isRightWrong_37 fu gg Q x1 x2 (x2 / (2 : Int32)) (((56 : Int32) * (x2 / (2 : Int32))) + (4 : Int32)) ((56 : Int32) * (x2 / (2 : Int32))) (0 : Int32)
    else
      j_M_isRightWrong_37 fu gg Q x1 x2 (x2 / (2 : Int32)) (((56 : Int32) * (x2 / (2 : Int32))) + (4 : Int32)) ((56 : Int32) * (x2 / (2 : Int32))) (7 : Int32)
def l_M_isRightWrong_4 (fu : Nat) (Q : PoT) : Nat → Int32 → Int32 → Option (Int32)
  | 0 => fun _ _ => none
  | n + 1 => b_M_isRightWrong_4 fu Q (l_M_isRightWrong_4 fu Q n)
def f_M_isRightWrong (fu : Nat) (Q : PoT) : Option (Int32) :=
  l_M_isRightWrong_4 fu Q fu (0 : Int32) (0 : Int32)
def j_M_isPassedWrong_113 (Q : PoT) (s0 : Int32) : Option (Int32) :=
  (f_M_step (po_passed Q) (-1 : Int32) s0).bind fun r1 =>
  (f_M_hasMan r1 ((1 : Int32) + ((8 : Int32) * (po_side Q))) Q).bind fun r2 =>
  if ¬ r2 = (0 : Int32) then
    some (0 : Int32)
  else
    (f_M_step (po_passed Q) (1 : Int32) s0).bind fun r3 =>
    (f_M_hasMan r3 ((1 : Int32) + ((8 : Int32) * (po_side Q))) Q).bind fun r4 =>
    if ¬ r4 = (0 : Int32) then
      some (0 : Int32)
    else
      some (1 : Int32)
def j_M_isPassedWrong_59 (Q : PoT) (s0 : Int32) : Option (Int32) :=
  if am_in ((po_passed Q) - s0) 64 = true then
    if ¬ ((po_men Q) (((po_passed Q) - s0)).toNatClampNeg) = ((1 : Int32) + ((8 : Int32) * ((1 : Int32) - (po_side Q)))) then
      some (1 : Int32)
    else
      if am_in ((po_passed Q) + s0) 64 = true then
        if ((po_men Q) (((po_passed Q) + s0)).toNatClampNeg) = (0 : Int32) then
          if ¬ (po_side Q) = (0 : Int32) then
            j_M_isPassedWrong_113 Q (1 : Int32)
          else
            j_M_isPassedWrong_113 Q (-1 : Int32)
        else
          some (1 : Int32)
      else none
  else none
def j_M_isPassedWrong_40 (Q : PoT) (s0 : Int32) (s1 : Int32) : Option (Int32) :=
  if s0 = s1 then
    if ¬ (po_side Q) = (0 : Int32) then
      j_M_isPassedWrong_59 Q (-8 : Int32)
    else
      j_M_isPassedWrong_59 Q (8 : Int32)
  else
    some (1 : Int32)
def f_M_isPassedWrong (Q : PoT) : Option (Int32) :=
  if (0 : Int32) ≤ (po_passed Q) then
    if am_in (po_passed Q) 64 = true then
      if ¬ ((po_men Q) ((po_passed Q)).toNatClampNeg) = (0 : Int32) then
        some (1 : Int32)
      else
        if ¬ (po_side Q) = (0 : Int32) then
          j_M_isPassedWrong_40 Q ((po_passed Q) / (8 : Int32)) (2 : Int32)
        else
          j_M_isPassedWrong_40 Q ((po_passed Q) / (8 : Int32)) (5 : Int32)
    else none
  else
    some (0 : Int32)
def f_M_fault (fu : Nat) (G : RtT) (Q : PoT) (N : NuT) : Option (Int32 × PoT × NuT) :=
  (f_M_readMen fu G Q).bind fun (r1, qg2) =>
  if r1 < (0 : Int32) then
    some ((1 : Int32), qg2, N)
  else
    (f_M_readRest fu r1 G qg2 N).bind fun (r3, qg4, ng5) =>
    if ¬ r3 = (0 : Int32) then
      (f_M_countOf fu (6 : Int32) qg4).bind fun r6 =>
      if ¬ r6 = (1 : Int32) then
        some ((2 : Int32), qg4, ng5)
      else
        (f_M_countOf fu (14 : Int32) qg4).bind fun r7 =>
        if r7 = (1 : Int32) then
          (f_M_hasPawnAtEnd fu qg4).bind fun r8 =>
          if r8 = (0 : Int32) then
            (f_M_inCheck fu ((1 : Int32) - (po_side qg4)) qg4).bind fun r9 =>
            if r9 = (0 : Int32) then
              (f_M_isRightWrong fu qg4).bind fun r10 =>
              if r10 = (0 : Int32) then
                (f_M_isPassedWrong qg4).bind fun r11 =>
                if r11 = (0 : Int32) then
                  some ((0 : Int32), qg4, ng5)
                else
                  some ((6 : Int32), qg4, ng5)
              else
                some ((5 : Int32), qg4, ng5)
            else
              some ((4 : Int32), qg4, ng5)
          else
            some ((3 : Int32), qg4, ng5)
        else
          some ((2 : Int32), qg4, ng5)
    else
      some ((1 : Int32), qg4, ng5)
def f_M_load (fu : Nat) (E : ThT) (G : RtT) (Q : PoT) (N : NuT) (A : PaT) (K : KeT) : Option (Int32 × ThT × RtT × PoT × NuT × PaT × KeT) :=
  (f_M_fault fu G Q N).bind fun (r1, qg2, ng3) =>
  if r1 ≤ (0 : Int32) then
    (f_M_enter fu qg2 ((pa_pastMen A), (pa_pastSide A), (pa_pastRights A), (pa_pastPassed A), (0 : Int32)) K).bind fun (ag4, kg5) =>
    some ((0 : Int32), (0 : Int32), ((rt_text G), (0 : Int32)), qg2, ng3, ag4, kg5)
  else
    (f_M_goTo fu (pa_plies A) qg2 A).bind fun qg6 =>
    some (r1, (0 : Int32), G, qg6, ng3, A, K)
def j_M_new_219 (fu : Nat) (gg : Int32 → PoT → PaT → KeT → Option (PoT × PaT × KeT)) (Q : PoT) (A : PaT) (K : KeT) (x1 : Int32) (s0 : Int32) : Option (PoT × PaT × KeT) :=
  if am_in x1 64 = true then
    if am_in ((8 : Int32) + x1) 64 = true then
      if am_in ((48 : Int32) + x1) 64 = true then
        if am_in ((56 : Int32) + x1) 64 = true then
          gg (x1 + (1 : Int32)) ((upd (upd (upd (upd (po_men Q) (x1).toNatClampNeg s0) (((8 : Int32) + x1)).toNatClampNeg (1 : Int32)) (((48 : Int32) + x1)).toNatClampNeg (9 : Int32)) (((56 : Int32) + x1)).toNatClampNeg (s0 + (8 : Int32))), (po_side Q), (po_rights Q), (po_passed Q), (po_clock Q)) A K
        else none
      else none
    else none
  else none
def j_M_new_175 (fu : Nat) (gg : Int32 → PoT → PaT → KeT → Option (PoT × PaT × KeT)) (Q : PoT) (A : PaT) (K : KeT) (x1 : Int32) : Option (PoT × PaT × KeT) :=
  j_M_new_219 fu gg Q A K x1 (4 : Int32)
def j_M_new_190 (fu : Nat) (gg : Int32 → PoT → PaT → KeT → Option (PoT × PaT × KeT)) (Q : PoT) (A : PaT) (K : KeT) (x1 : Int32) : Option (PoT × PaT × KeT) :=
  j_M_new_219 fu gg Q A K x1 (2 : Int32)
def j_M_new_204 (fu : Nat) (gg : Int32 → PoT → PaT → KeT → Option (PoT × PaT × KeT)) (Q : PoT) (A : PaT) (K : KeT) (x1 : Int32) : Option (PoT × PaT × KeT) :=
  j_M_new_219 fu gg Q A K x1 (3 : Int32)
def b_M_new_159 (fu : Nat) (gg : Int32 → PoT → PaT → KeT → Option (PoT × PaT × KeT)) (x1 : Int32) (Q : PoT) (A : PaT) (K : KeT) : Option (PoT × PaT × KeT) :=
  if (8 : Int32) ≤ x1 then
    (f_M_enter fu Q A K).bind fun (ag1, kg2) =>
    some (Q, ag1, kg2)
  else
    if x1 = (0 : Int32) then
      j_M_new_175 fu gg Q A K x1
    else
      if ¬ x1 = (7 : Int32) then
        if x1 = (1 : Int32) then
          j_M_new_190 fu gg Q A K x1
        else
          if ¬ x1 = (6 : Int32) then
            if x1 = (2 : Int32) then
              j_M_new_204 fu gg Q A K x1
            else
              if ¬ x1 = (5 : Int32) then
                if ¬ x1 = (3 : Int32) then
                  j_M_new_219 fu gg Q A K x1 (6 : Int32)
                else
                  j_M_new_219 fu gg Q A K x1 (5 : Int32)
              else
                j_M_new_204 fu gg Q A K x1
          else
            j_M_new_190 fu gg Q A K x1
      else
        j_M_new_175 fu gg Q A K x1
def l_M_new_159 (fu : Nat) : Nat → Int32 → PoT → PaT → KeT → Option (PoT × PaT × KeT)
  | 0 => fun _ _ _ _ => none
  | n + 1 => b_M_new_159 fu (l_M_new_159 fu n)
def f_M_new (fu : Nat) (Q : PoT) (A : PaT) (K : KeT) : Option (PoT × PaT × KeT) :=
  l_M_new_159 fu fu (0 : Int32) Q A K
def xr (E : ThT) (G : RtT) (Q : PoT) (N : NuT) (A : PaT) (U : UnT) (Y : LiT) (K : KeT) (H : HlT) (tl : List am_C) : List am_C :=
  .inl (8, [.int E, .int (rt_typed G), .ref 1001, .ref 1002, .int (po_side Q), .int (po_rights Q), .int (po_passed Q), .int (po_clock Q), .int N, .int (pa_plies A), .ref 1003, .ref 1004, .ref 1005, .ref 1006, .ref 1007, .ref 1008, .ref 1009, .ref 1010, .ref 1011, .ref 1012, .ref 1013, .ref 1014, .int (ke_keyCount K), .ref 1015, .int (hl_before H), .int (hl_met H), .ref 1016, .ref 1017]) ::
  .inr (.char, 100, .inl (rt_text G)) ::
  .inr (.int, 64, .inl (po_men Q)) ::
  .inr (.int, 576, .inl (pa_pastMen A)) ::
  .inr (.int, 9, .inl (pa_pastSide A)) ::
  .inr (.int, 9, .inl (pa_pastRights A)) ::
  .inr (.int, 9, .inl (pa_pastPassed A)) ::
  .inr (.int, 11, .inl (un_undoMan U)) ::
  .inr (.int, 11, .inl (un_undoTaken U)) ::
  .inr (.int, 11, .inl (un_undoWhere U)) ::
  .inr (.int, 11, .inl (un_undoRights U)) ::
  .inr (.int, 11, .inl (un_undoPassed U)) ::
  .inr (.int, 11, .inl (un_undoClock U)) ::
  .inr (.int, 20480, .inl (li_lists Y)) ::
  .inr (.int, 10, .inl (li_counts Y)) ::
  .inr (.int, 2048, .inl (ke_keyMoves K)) ::
  .inr (.int, 4, .inl (hl_helpLine H)) ::
  .inr (.int, 4, .inl (hl_tried H)) :: tl
