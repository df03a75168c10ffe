/-! WHERE A MAN MAY GO: pawns -/
/-- a man of that side stands there -/
def own (m : Nat → Int32) (c i : Nat) : Bool := decide (¬ m i = 0 ∧ m i >>> ((3 : Int32) &&& 31) = nI c)
def stp (w s i : Nat) : Bool := decide (nx w s = nI i)
theorem nI_neg {i : Nat} (hi : i < 2 ^ 31) : ¬ (-1 : Int32) = nI i := fun h => nI_pos hi (h ▸ (by decide))
theorem nI_sub {a b : Nat} (h : b ≤ a) : nI a - nI b = nI (a - b) := by
  have : nI a = nI (a - b) + nI b := by rw [nI_add]; congr 1; omega
  rw [this, Int32.add_sub_cancel]
theorem up1 (m : Nat → Int32) {w s i : Nat} (hw : w < 16) (hs : s < 64) (hi : i < 64) : decide (i ∈ upto m (ryf 1 w s)) = stp w s i := by
  unfold ryf stp
  rcases nx_cases hw hs with h | ⟨t, ht, h⟩
  · rw [h, if_pos (by decide), decide_eq_false (nI_neg (by omega))]
    simp [upto]
  · rw [h, if_neg (nI_pos (by omega)), nI_clamp (by omega)]
    simp only [ryf, upto, ite_self, List.mem_singleton, nI_eq (show t < 2 ^ 31 by omega) (show i < 2 ^ 31 by omega), eq_comm]
/-- forth, once or twice -/
def pfw (m : Nat → Int32) (c s i : Nat) : Bool := if nx c s < 0 then false else (decide (m (nx c s).toNatClampNeg = 0) && (decide (i = (nx c s).toNatClampNeg) || (decide (s / 8 = 1 + 5 * c) && (stp c (nx c s).toNatClampNeg i && decide (m i = 0)))))
theorem pfw_n {m : Nat → Int32} {c s i : Nat} (h : nx c s = -1) : pfw m c s i = false := by
  unfold pfw
  rw [h, if_pos (by decide)]
theorem pfw_y {m : Nat → Int32} {c s i f : Nat} (h : nx c s = nI f) (hf : f < 64) : pfw m c s i = (decide (m f = 0) && (decide (i = f) || (decide (s / 8 = 1 + 5 * c) && (stp c f i && decide (m i = 0))))) := by
  unfold pfw
  rw [h, if_neg (nI_pos (by omega)), nI_clamp (by omega)]
/-- aside, where something can be taken -/
def pcp (m : Nat → Int32) (c : Nat) (p : Int32) (s i : Nat) : Bool := (stp (4 + 2 * c) s i || stp (5 + 2 * c) s i) && (own m (1 - c) i || decide (p = nI i))
def pt (m : Nat → Int32) (c : Nat) (p : Int32) (s i : Nat) : Bool := pcp m c p s i || pfw m c s i
def okp (p : Int32) : Prop := p = -1 ∨ ∃ t, t < 64 ∧ p = nI t
theorem shr3 : ∀ s : Fin 64, nI s >>> ((3 : Int32) &&& 31) = nI (s / 8) := by decide +kernel
theorem pu_front {c s : Nat} (hc : c < 2) (hs : s < 64) : f_Board_inFront (nI s) (nI c) = some (nx c s) := by
  unfold f_Board_inFront
  rcases (show c = 0 ∨ c = 1 by omega) with rfl | rfl
  · rw [if_neg (by decide), show ((64 : Int32) * (0 : Int32)) + nI s = nI (64 * 0 + s) from pu_idx (w := 0) (by decide) hs, if_pos (pu_in (by omega) (by decide)), nI_clamp (by omega)]
    rfl
  · rw [if_pos (by decide), show ((64 : Int32) * (1 : Int32)) + nI s = nI (64 * 1 + s) from pu_idx (w := 1) (by decide) hs, if_pos (pu_in (by omega) (by decide)), nI_clamp (by omega)]
    rfl
theorem pu_pbit (B : BdT) (hp : okp (bd_passed B)) : ∃ l', f_Mover_passedBit B = some l' ∧ ∀ i, i < 64 → bt l' i = decide (bd_passed B = nI i) := by
  unfold f_Mover_passedBit
  rcases hp with h | ⟨t, ht, h⟩
  · rw [h, if_pos (by decide)]
    exact ⟨0, rfl, fun i hi => by rw [bt_0, decide_eq_false (nI_neg (by omega))]⟩
  · rw [h, if_neg (nI_pos (by omega))]
    exact ⟨_, rfl, fun i hi => by rw [bt_sh ht, decide_eq_decide, nI_eq (by omega) (by omega), eq_comm]⟩
theorem pw_two : ∀ c : Fin 2, ∀ s : Fin 64, s.val / 8 = 1 + 5 * c.val → ∃ f : Fin 64, nx c s = nI f ∧ ∃ g : Fin 64, nx c f = nI g := by decide +kernel
theorem pu_pT35 (fu : Nat) (hfu : 16 < fu) (B : BdT) (c s : Nat) (hc : c < 2) (hs : s < 64) (l3 : Int64) (hl3 : ∀ i, i < 64 → bt l3 i = (own (bd_men B) (1 - c) i || decide (bd_passed B = nI i))) : ∃ l', j_Mover_pawnTargets_35 fu B (nI s) (nI c) l3 (nI (4 + 2 * c)) = some l' ∧ ∀ i, i < 64 → bt l' i = pt (bd_men B) c (bd_passed B) s i := by
  unfold j_Mover_pawnTargets_35
  obtain ⟨r2, e1, e2⟩ := pu_seen fu B s (4 + 2 * c) (4 + 2 * c + 2) 1 hs (by omega) (by omega) (by omega) hfu
  have e1' : f_Board_seen fu (nI s) (nI (4 + 2 * c)) (nI (4 + 2 * c) + (2 : Int32)) (1 : Int32) B = some r2 := by
    rw [show nI (4 + 2 * c) + (2 : Int32) = nI (4 + 2 * c + 2) from nI_add _ 2]; exact e1
  have hcap : ∀ i, i < 64 → bt (l3 &&& r2) i = pcp (bd_men B) c (bd_passed B) s i := by
    intro i hi
    rw [bt_and, hl3 i hi, e2 i]
    unfold sees pcp
    rw [show 4 + 2 * c + 2 - (4 + 2 * c) = 2 by omega]
    simp only [List.range', List.any_cons, List.any_nil, Bool.or_false]
    rw [up1 _ (by omega) hs hi, up1 _ (by omega) hs hi, show 4 + 2 * c + 1 = 5 + 2 * c by omega, Bool.and_comm]
  rw [e1', pu_front hc hs]
  simp only [Option.bind_some]
  unfold pt
  rcases nx_cases (w := c) (by omega) hs with h | ⟨f, hf, h⟩
  · simp only [pfw_n h]
    rw [h, if_pos (by decide)]
    exact ⟨_, rfl, fun i hi => by rw [hcap i hi, Bool.or_false]⟩
  · simp only [pfw_y h hf]
    rw [h, if_neg (nI_pos (by omega)), if_pos (pu_in hf (by decide)), nI_clamp (by omega)]
    by_cases hz : bd_men B f = 0
    · rw [if_pos hz, pu_front hc hf]
      simp only [Option.bind_some, hz, decide_true, Bool.true_and]
      have hl6 : ∀ i, i < 64 → bt ((l3 &&& r2) ||| (am_shl (1 : Int64) (nI f))) i = (pcp (bd_men B) c (bd_passed B) s i || decide (i = f)) := fun i hi => by
        rw [bt_or, hcap i hi, bt_sh hf]
      have key : ∃ l', j_Mover_pawnTargets_119 fu B ((l3 &&& r2) ||| (am_shl (1 : Int64) (nI f))) (nx c f) (nI s >>> ((3 : Int32) &&& 31)) (nI (1 + 5 * c)) = some l' ∧ ∀ i, i < 64 → bt l' i = (pcp (bd_men B) c (bd_passed B) s i || (decide (i = f) || (decide (s / 8 = 1 + 5 * c) && (stp c f i && decide (bd_men B i = 0))))) := by
        unfold j_Mover_pawnTargets_119 j_Mover_pawnTargets_141 j_Mover_pawnTargets_142
        rw [shr3 ⟨s, hs⟩]
        simp only [nI_eq (show s / 8 < 2 ^ 31 by omega) (show 1 + 5 * c < 2 ^ 31 by omega)]
        by_cases h8 : s / 8 = 1 + 5 * c
        · rw [if_neg (fun q => q h8)]
          rcases nx_cases (w := c) (by omega) hf with h' | ⟨g, hg, h'⟩
          · exfalso
            obtain ⟨f', q1, g', q2⟩ := pw_two ⟨c, hc⟩ ⟨s, hs⟩ h8
            simp only at q1 q2
            rw [h] at q1
            rw [← (nI_eq (by omega) (by omega)).mp q1, h'] at q2
            exact nI_neg (by omega) q2
          · unfold stp
            rw [h', if_neg (nI_pos (by omega)), if_pos (pu_in hg (by decide)), nI_clamp (by omega)]
            by_cases hz' : bd_men B g = 0
            · rw [if_neg (fun q => q hz'), if_neg (by decide)]
              refine ⟨_, rfl, fun i hi => ?_⟩
              rw [bt_or, hl6 i hi, bt_sh hg, Bool.or_assoc, decide_eq_true h8, Bool.true_and]
              congr 2
              by_cases hig : i = g
              · subst hig; simp [hz']
              · rw [decide_eq_false hig, decide_eq_false (fun q => hig ((nI_eq (by omega) (by omega)).mp q).symm), Bool.false_and]
            · rw [if_pos hz', if_pos trivial]
              refine ⟨_, rfl, fun i hi => ?_⟩
              rw [hl6 i hi]
              by_cases hig : i = g
              · subst hig; simp [hz']
              · rw [decide_eq_false (fun q => hig ((nI_eq (by omega) (by omega)).mp q).symm), Bool.false_and, Bool.and_false, Bool.or_false]
        · rw [if_pos h8, if_pos trivial]
          refine ⟨_, rfl, fun i hi => ?_⟩
          rw [hl6 i hi, decide_eq_false h8, Bool.false_and, Bool.or_false]
      rcases (show c = 0 ∨ c = 1 by omega) with rfl | rfl
      · rw [if_neg (by decide)]; exact key
      · rw [if_pos (by decide)]; exact key
    · rw [if_neg hz]
      exact ⟨_, rfl, fun i hi => by rw [hcap i hi, decide_eq_false hz, Bool.false_and, Bool.or_false]⟩
/-- the sets of squares are those of the men -/
def okh (B : BdT) : Prop := ∀ d, d < 2 → ∀ i, i < 64 → bt (bd_held B d) i = own (bd_men B) d i
theorem pu_pawnT (fu : Nat) (hfu : 16 < fu) (B : BdT) (c s : Nat) (hc : c < 2) (hs : s < 64) (hside : bd_side B = nI c) (hh : okh B) (hp : okp (bd_passed B)) : ∃ l', f_Mover_pawnTargets fu (nI s) B = some l' ∧ ∀ i, i < 64 → bt l' i = pt (bd_men B) c (bd_passed B) s i := by
  unfold f_Mover_pawnTargets
  obtain ⟨pb, e1, e2⟩ := pu_pbit B hp
  rw [hside, nI_oth ⟨c, hc⟩, if_pos (pu_in (by show 1 - c < 2; omega) (by decide)), nI_clamp (by show 1 - c < _; omega), e1]
  have key := pu_pT35 fu hfu B c s hc hs (bd_held B (1 - c) ||| pb) (fun i hi => by rw [bt_or, hh (1 - c) (by omega) i hi, e2 i hi])
  rcases (show c = 0 ∨ c = 1 by omega) with rfl | rfl
  · simp only [Option.bind_some]; rw [if_neg (by decide)]; exact key
  · simp only [Option.bind_some]; rw [if_pos (by decide)]; exact key
theorem pu_isOf (Q : PoT) (hm : okm (po_men Q)) {s c : Nat} (hs : s < 64) (hc : c < 2) : f_M_isOf (nI s) (nI c) Q = some (cond (own (po_men Q) c s) 1 0) := by
  unfold f_M_isOf own
  rw [if_pos (pu_in hs (by decide)), nI_clamp (by omega)]
  by_cases hz : po_men Q s = 0
  · simp [hz]
  · by_cases hq : po_men Q s >>> ((3 : Int32) &&& 31) = nI c
    · simp [hz, hq, pu_in hs (show 64 < 2 ^ 31 by decide)]
    · simp [hz, hq, pu_in hs (show 64 < 2 ^ 31 by decide)]
/-! .. the reference's side -/
/-- one side of what a pawn may take -/
def pc1 (m : Nat → Int32) (c w : Nat) (p : Int32) (s i : Nat) : Bool := stp w s i && (own m (1 - c) i || decide (p = nI i))
theorem pu_p95 (fu : Nat) (Q : PoT) (hm : okm (po_men Q)) (c s w : Nat) (hc : c < 2) (hs : s < 64) (hw : w < 16) (hside : po_side Q = nI c) (gg : Int64 → Int32 → Option Int64) (l3 : Int64) (x6 x2 : Int32) (hx : ¬ (1 : Int32) < x6) (hst : f_M_step (nI s) x6 x2 = some (nx w s)) : ∃ l', b_M_pawnGoals_95 fu Q (nI s) x2 gg l3 x6 = gg l' (x6 + 2) ∧ ∀ i, i < 64 → bt l' i = (bt l3 i || pc1 (po_men Q) c w (po_passed Q) s i) := by
  unfold b_M_pawnGoals_95 j_M_pawnGoals_139 j_M_pawnGoals_147 pc1 stp
  rw [if_neg hx, hst]
  simp only [Option.bind_some]
  rcases nx_cases hw hs with h | ⟨t, ht, h⟩
  · rw [h, if_pos (by decide)]
    exact ⟨l3, rfl, fun i hi => by rw [decide_eq_false (nI_neg (by omega)), Bool.false_and, Bool.or_false]⟩
  · rw [h, if_neg (nI_pos (by omega)), hside, nI_oth ⟨c, hc⟩, pu_isOf Q hm ht (by show 1 - c < 2; omega), pu_bit ht]
    simp only [Option.bind_some]
    have hb : ∀ i, i < 64 → bt (l3 ||| am_shl 1 (nI t)) i = (bt l3 i || decide (nI t = nI i)) := fun i hi => by
      rw [bt_or, bt_sh ht]; congr 1; rw [decide_eq_decide, nI_eq (by omega) (by omega), eq_comm]
    by_cases ho : own (po_men Q) (1 - c) t = true
    · rw [ho, if_pos (by decide)]
      refine ⟨_, rfl, fun i hi => ?_⟩
      rw [hb i hi]
      by_cases hit : t = i
      · subst hit; simp [ho]
      · rw [decide_eq_false (fun q => hit ((nI_eq (by omega) (by omega)).mp q)), Bool.false_and]
    · rw [Bool.not_eq_true] at ho
      rw [ho, if_neg (by decide)]
      by_cases hp : nI t = po_passed Q
      · rw [if_neg (fun q => q hp)]
        refine ⟨_, rfl, fun i hi => ?_⟩
        rw [hb i hi]
        by_cases hit : t = i
        · subst hit; simp [hp]
        · rw [decide_eq_false (fun q => hit ((nI_eq (by omega) (by omega)).mp q)), Bool.false_and]
      · rw [if_pos hp]
        refine ⟨_, rfl, fun i hi => ?_⟩
        by_cases hit : t = i
        · subst hit; simp [ho, Ne.symm hp]
        · rw [decide_eq_false (fun q => hit ((nI_eq (by omega) (by omega)).mp q)), Bool.false_and, Bool.or_false]
theorem pu_p92 (fu : Nat) (hfu : 16 < fu) (Q : PoT) (hm : okm (po_men Q)) (c s : Nat) (hc : c < 2) (hs : s < 64) (hside : po_side Q = nI c) (l3 : Int64) : ∃ l', j_M_pawnGoals_92 fu Q (nI s) (tb_RANK_STEP c) l3 = some l' ∧ ∀ i, i < 64 → bt l' i = (bt l3 i || pcp (po_men Q) c (po_passed Q) s i) := by
  obtain ⟨n, rfl⟩ : ∃ n, fu = n + 3 := ⟨fu - 3, by omega⟩
  unfold j_M_pawnGoals_92
  have h5 : f_M_step (nI s) (-1) (tb_RANK_STEP c) = some (nx (5 + 2 * c) s) := by
    have := pu_step (w := 5 + 2 * c) (s := s) (by omega) hs
    rcases (show c = 0 ∨ c = 1 by omega) with rfl | rfl <;> exact this
  have h4 : f_M_step (nI s) 1 (tb_RANK_STEP c) = some (nx (4 + 2 * c) s) := by
    have := pu_step (w := 4 + 2 * c) (s := s) (by omega) hs
    rcases (show c = 0 ∨ c = 1 by omega) with rfl | rfl <;> exact this
  obtain ⟨l1, e1, e2⟩ := pu_p95 (n + 3) Q hm c s (5 + 2 * c) hc hs (by omega) hside (l_M_pawnGoals_95 (n + 3) Q (nI s) (tb_RANK_STEP c) (n + 2)) l3 (-1) (tb_RANK_STEP c) (by decide) h5
  obtain ⟨l2, e3, e4⟩ := pu_p95 (n + 3) Q hm c s (4 + 2 * c) hc hs (by omega) hside (l_M_pawnGoals_95 (n + 3) Q (nI s) (tb_RANK_STEP c) (n + 1)) l1 (-1 + 2) (tb_RANK_STEP c) (by decide) h4
  refine ⟨l2, ?_, fun i hi => ?_⟩
  · show b_M_pawnGoals_95 (n + 3) Q (nI s) (tb_RANK_STEP c) (l_M_pawnGoals_95 (n + 3) Q (nI s) (tb_RANK_STEP c) (n + 2)) l3 (-1) = _
    rw [e1]
    show b_M_pawnGoals_95 (n + 3) Q (nI s) (tb_RANK_STEP c) (l_M_pawnGoals_95 (n + 3) Q (nI s) (tb_RANK_STEP c) (n + 1)) l1 (-1 + 2) = _
    rw [e3]
    show b_M_pawnGoals_95 (n + 3) Q (nI s) (tb_RANK_STEP c) _ l2 (-1 + 2 + 2) = _
    unfold b_M_pawnGoals_95
    rw [if_pos (by decide)]
  · rw [e4 i hi, e2 i hi]
    unfold pc1 pcp
    cases bt l3 i <;> cases stp (5 + 2 * c) s i <;> cases stp (4 + 2 * c) s i <;> simp
theorem pu_fstep {c s : Nat} (hc : c < 2) (hs : s < 64) : f_M_step (nI s) 0 (tb_RANK_STEP c) = some (nx c s) := by
  have := pu_step (w := c) (s := s) (by omega) hs
  rcases (show c = 0 ∨ c = 1 by omega) with rfl | rfl <;> exact this
theorem pu_p12 (fu : Nat) (hfu : 16 < fu) (Q : PoT) (hm : okm (po_men Q)) (c s : Nat) (hc : c < 2) (hs : s < 64) (hside : po_side Q = nI c) : ∃ l', j_M_pawnGoals_12 fu Q (nI s) (tb_RANK_STEP c) = some l' ∧ ∀ i, i < 64 → bt l' i = pt (po_men Q) c (po_passed Q) s i := by
  unfold j_M_pawnGoals_12 pt
  rw [pu_fstep hc hs]
  simp only [Option.bind_some]
  rcases nx_cases (w := c) (by omega) hs with h | ⟨f, hf, h⟩
  · simp only [pfw_n h]
    rw [h, if_pos (by decide)]
    obtain ⟨l', e1, e2⟩ := pu_p92 fu hfu Q hm c s hc hs hside 0
    exact ⟨l', e1, fun i hi => by rw [e2 i hi, bt_0, Bool.false_or, Bool.or_false]⟩
  · simp only [pfw_y h hf]
    rw [h, if_neg (nI_pos (by omega)), if_pos (pu_in hf (by decide)), nI_clamp (by omega)]
    by_cases hz : po_men Q f = 0
    · rw [if_neg (fun q => q hz), pu_bit hf, pu_fstep hc hf]
      simp only [Option.bind_some, hz, decide_true, Bool.true_and]
      have hl6 : ∀ i, i < 64 → bt ((0 : Int64) ||| (am_shl (1 : Int64) (nI f))) i = decide (i = f) := fun i hi => by
        rw [bt_or, bt_0, bt_sh hf, Bool.false_or]
      have key : ∃ l', j_M_pawnGoals_71 fu Q (nI s) (tb_RANK_STEP c) ((0 : Int64) ||| (am_shl (1 : Int64) (nI f))) (nx c f) (nI s >>> ((3 : Int32) &&& 31)) (nI (1 + 5 * c)) = some l' ∧ ∀ i, i < 64 → bt l' i = (pcp (po_men Q) c (po_passed Q) s i || (decide (i = f) || (decide (s / 8 = 1 + 5 * c) && (stp c f i && decide (po_men Q i = 0))))) := by
        unfold j_M_pawnGoals_71
        rw [shr3 ⟨s, hs⟩]
        simp only [nI_eq (show s / 8 < 2 ^ 31 by omega) (show 1 + 5 * c < 2 ^ 31 by omega)]
        by_cases h8 : s / 8 = 1 + 5 * c
        · rw [if_neg (fun q => q h8)]
          rcases nx_cases (w := c) (by omega) hf with h' | ⟨g, hg, h'⟩
          · exfalso
            obtain ⟨f', q1, g', q2⟩ := pw_two ⟨c, hc⟩ ⟨s, hs⟩ h8
            simp only at q1 q2
            rw [h] at q1
            rw [← (nI_eq (by omega) (by omega)).mp q1, h'] at q2
            exact nI_neg (by omega) q2
          · unfold stp
            rw [h', if_pos (pu_in hg (by decide)), nI_clamp (by omega)]
            by_cases hz' : po_men Q g = 0
            · rw [if_neg (fun q => q hz'), pu_bit hg]
              simp only [Option.bind_some]
              obtain ⟨l', e1, e2⟩ := pu_p92 fu hfu Q hm c s hc hs hside (((0 : Int64) ||| (am_shl (1 : Int64) (nI f))) ||| am_shl 1 (nI g))
              refine ⟨l', e1, fun i hi => ?_⟩
              rw [e2 i hi, bt_or, hl6 i hi, bt_sh hg, decide_eq_true h8, Bool.true_and, Bool.or_comm]
              congr 2
              by_cases hig : i = g
              · subst hig; simp [hz']
              · rw [decide_eq_false hig, decide_eq_false (fun q => hig ((nI_eq (by omega) (by omega)).mp q).symm), Bool.false_and]
            · rw [if_pos hz']
              obtain ⟨l', e1, e2⟩ := pu_p92 fu hfu Q hm c s hc hs hside ((0 : Int64) ||| (am_shl (1 : Int64) (nI f)))
              refine ⟨l', e1, fun i hi => ?_⟩
              rw [e2 i hi, hl6 i hi, Bool.or_comm]
              by_cases hig : i = g
              · subst hig; simp [hz']
              · rw [decide_eq_false (fun q => hig ((nI_eq (by omega) (by omega)).mp q).symm), Bool.false_and, Bool.and_false, Bool.or_false]
        · rw [if_pos h8]
          obtain ⟨l', e1, e2⟩ := pu_p92 fu hfu Q hm c s hc hs hside ((0 : Int64) ||| (am_shl (1 : Int64) (nI f)))
          refine ⟨l', e1, fun i hi => ?_⟩
          rw [e2 i hi, hl6 i hi, decide_eq_false h8, Bool.false_and, Bool.or_false, Bool.or_comm]
      rw [hside]
      rcases (show c = 0 ∨ c = 1 by omega) with rfl | rfl
      · rw [if_neg (by decide)]; exact key
      · rw [if_pos (by decide)]; exact key
    · rw [if_pos hz]
      obtain ⟨l', e1, e2⟩ := pu_p92 fu hfu Q hm c s hc hs hside 0
      exact ⟨l', e1, fun i hi => by rw [e2 i hi, bt_0, Bool.false_or, decide_eq_false hz, Bool.false_and, Bool.or_false]⟩
theorem pu_pawnG (fu : Nat) (hfu : 16 < fu) (Q : PoT) (hm : okm (po_men Q)) (c s : Nat) (hc : c < 2) (hs : s < 64) (hside : po_side Q = nI c) : ∃ l', f_M_pawnGoals fu (nI s) Q = some l' ∧ ∀ i, i < 64 → bt l' i = pt (po_men Q) c (po_passed Q) s i := by
  unfold f_M_pawnGoals
  have key := pu_p12 fu hfu Q hm c s hc hs hside
  rw [hside]
  rcases (show c = 0 ∨ c = 1 by omega) with rfl | rfl
  · rw [if_neg (by decide)]; exact key
  · rw [if_pos (by decide)]; exact key
