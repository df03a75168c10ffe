/-! .. the reference's castling, and all that a man may do -/
theorem pu_c53 (fu : Nat) (Q : PoT) (x1 x2 : Int32) (e : Nat) (he : e ≤ 64) (hx : (x1 = 0 ∧ x2 = nI e) ∨ (¬ x1 = 0 ∧ x2 + 3 = nI e)) : ∀ (j n : Nat), j ≤ e → j < n → l_M_mayCastle_53 fu Q x1 x2 n (nI (e - j)) = some (cond ((List.range' (e - j) j).all (fun i => decide (po_men Q i = 0))) (.inl ()) (.inr 0)) := by
  have h66 : ∀ gg x4, b_M_mayCastle_53 fu Q x1 x2 gg x4 = j_M_mayCastle_66 fu gg Q x1 x2 x4 x4 (nI e) := by
    intro gg x4
    unfold b_M_mayCastle_53
    rcases hx with ⟨h1, h2⟩ | ⟨h1, h2⟩
    · rw [if_pos h1, h2]
    · rw [if_neg h1, h2]
  intro j
  induction j with
  | zero =>
    intro n _ hn
    obtain ⟨n, rfl⟩ : ∃ m, n = m + 1 := ⟨n - 1, by omega⟩
    show b_M_mayCastle_53 fu Q x1 x2 _ (nI (e - 0)) = _
    rw [h66]
    unfold j_M_mayCastle_66
    rw [if_pos (nI_le (by omega) (by omega))]
    rfl
  | succ j ih =>
    intro n hj hn
    obtain ⟨n, rfl⟩ : ∃ m, n = m + 1 := ⟨n - 1, by omega⟩
    show b_M_mayCastle_53 fu Q x1 x2 (l_M_mayCastle_53 fu Q x1 x2 n) (nI (e - (j + 1))) = _
    rw [h66]
    unfold j_M_mayCastle_66
    rw [if_neg (nI_ge (by omega) (by omega)), if_pos (pu_in (by omega) (by decide)), nI_clamp (by omega), nI_1, List.range'_succ, List.all_cons, show e - (j + 1) + 1 = e - j by omega]
    by_cases hz : po_men Q (e - (j + 1)) = 0
    · rw [if_pos hz, ih n (by omega) (by omega), decide_eq_true hz, Bool.true_and]
    · rw [if_neg hz, decide_eq_false hz]
      rfl
theorem pu_c87 (fu : Nat) (hfu : 64 < fu) (Q : PoT) (hm : okm (po_men Q)) (c : Nat) (hc : c < 2) (hside : po_side Q = nI c) (hk : kng (po_men Q) c (56 * c + 4)) (x1 : Int32) (t : Nat) (ht : t < 64) (hx : (x1 = 0 ∧ t = 56 * c + 3) ∨ (¬ x1 = 0 ∧ t = 56 * c + 5)) : j_M_mayCastle_87 fu Q x1 (nI (56 * c + 4)) = some (cond (!att (po_men Q) (1 - c) t && !att (po_men Q) (1 - c) (56 * c + 4)) 1 0) := by
  have h112 : j_M_mayCastle_112 fu Q (nI t) = some (cond (!att (po_men Q) (1 - c) t) 1 0) := by
    unfold j_M_mayCastle_112
    rw [hside, nI_oth ⟨c, hc⟩, pu_isAttacked fu (by omega) Q hm (1 - c) t (by omega) ht]
    cases att (po_men Q) (1 - c) t <;> rfl
  unfold j_M_mayCastle_87
  rw [hside, pu_mCheck fu hfu Q hm c (56 * c + 4) hc hk]
  simp only [Option.bind_some]
  rw [show nI (56 * c + 4) - (1 : Int32) = nI (56 * c + 3) from nI_sub (a := 56 * c + 4) (b := 1) (by omega), show nI (56 * c + 4) + (1 : Int32) = nI (56 * c + 5) from nI_add _ 1]
  cases att (po_men Q) (1 - c) (56 * c + 4) with
  | true => rw [if_pos (by decide), Bool.not_true, Bool.and_false]; rfl
  | false =>
    rw [if_neg (by decide), Bool.not_false, Bool.and_true]
    rcases hx with ⟨h1, h2⟩ | ⟨h1, h2⟩
    · rw [if_pos h1, ← h2, h112]
    · rw [if_neg h1, ← h2, h112]
theorem hm56 : ∀ c : Fin 2, (56 : Int32) * nI c + 4 = nI (56 * c.val + 4) := by decide +kernel
theorem pu_mayS (fu : Nat) (hfu : 64 < fu) (Q : PoT) (hm : okm (po_men Q)) (c ρ : Nat) (hc : c < 2) (hρ : ρ < 16) (hside : po_side Q = nI c) (hr : po_rights Q = nI ρ) (hk : kng (po_men Q) c (56 * c + 4)) : f_M_mayCastle fu 1 Q = some (cond (csh (po_men Q) c ρ) 1 0) := by
  unfold f_M_mayCastle j_M_mayCastle_19 j_M_mayCastle_51 csh
  obtain ⟨g1, g2⟩ := rg_m ⟨ρ, hρ⟩ ⟨c, hc⟩
  simp only at g1 g2
  rw [if_neg (by decide), hside, hr, hm56 ⟨c, hc⟩]
  simp only
  by_cases t1 : ρ.testBit (2 * c) = false
  · rw [if_neg (fun h => h (g1.mpr t1)), t1]; rfl
  · rw [if_pos (fun h => t1 (g1.mp h)), if_neg (by decide), show nI (56 * c + 4) + (1 : Int32) = nI (56 * c + 7 - 2) from nI_add _ 1, pu_c53 fu Q 1 (nI (56 * c + 4)) (56 * c + 7) (by omega) (Or.inr ⟨by decide, nI_add _ 3⟩) 2 fu (by omega) (by omega)]
    rw [Bool.not_eq_false] at t1
    rw [t1]
    simp only [Option.bind_some, List.range', List.all_cons, List.all_nil, Bool.and_true, Bool.true_and, show 56 * c + 7 - 2 = 56 * c + 5 by omega, show 56 * c + 5 + 1 = 56 * c + 6 by omega, Bool.decide_and]
    rw [pu_c87 fu hfu Q hm c hc hside hk 1 (56 * c + 5) (by omega) (Or.inr ⟨by decide, rfl⟩)]
    cases (decide (po_men Q (56 * c + 5) = 0) && decide (po_men Q (56 * c + 6) = 0)) <;> rfl
theorem pu_mayL (fu : Nat) (hfu : 64 < fu) (Q : PoT) (hm : okm (po_men Q)) (c ρ : Nat) (hc : c < 2) (hρ : ρ < 16) (hside : po_side Q = nI c) (hr : po_rights Q = nI ρ) (hk : kng (po_men Q) c (56 * c + 4)) : f_M_mayCastle fu 0 Q = some (cond (clg (po_men Q) c ρ) 1 0) := by
  unfold f_M_mayCastle j_M_mayCastle_19 j_M_mayCastle_51 clg
  obtain ⟨g1, g2⟩ := rg_m ⟨ρ, hρ⟩ ⟨c, hc⟩
  simp only at g1 g2
  rw [if_pos (by decide), hside, hr, hm56 ⟨c, hc⟩]
  simp only
  by_cases t1 : ρ.testBit (2 * c + 1) = false
  · rw [if_neg (fun h => h (g2.mpr t1)), t1]; rfl
  · rw [if_pos (fun h => t1 (g2.mp h)), if_pos trivial, show nI (56 * c + 4) - (3 : Int32) = nI (56 * c + 4 - 3) from nI_sub (a := 56 * c + 4) (b := 3) (by omega), pu_c53 fu Q 0 (nI (56 * c + 4)) (56 * c + 4) (by omega) (Or.inl ⟨rfl, rfl⟩) 3 fu (by omega) (by omega)]
    rw [Bool.not_eq_false] at t1
    rw [t1]
    simp only [Option.bind_some, List.range', List.all_cons, List.all_nil, Bool.and_true, Bool.true_and, show 56 * c + 4 - 3 = 56 * c + 1 by omega, show 56 * c + 1 + 1 = 56 * c + 2 by omega, show 56 * c + 2 + 1 = 56 * c + 3 by omega, Bool.decide_and]
    rw [pu_c87 fu hfu Q hm c hc hside hk 0 (56 * c + 3) (by omega) (Or.inl ⟨rfl, rfl⟩)]
    cases (decide (po_men Q (56 * c + 1) = 0) && (decide (po_men Q (56 * c + 2) = 0) && decide (po_men Q (56 * c + 3) = 0))) <;> rfl
/-- what a man reaches, pawns apart -/
def gwa (m : Nat → Int32) (s i : Nat) : Bool := (List.range' 0 16).any (fun w => gw m (m s &&& 7) w s i)
/-- where a man might go, his own men's squares too -/
def gl (m : Nat → Int32) (c : Nat) (p : Int32) (ρ s i : Nat) : Bool := if m s &&& 7 = 1 then pt m c p s i else (gwa m s i || (decide (m s &&& 7 = 6) && ctg m c ρ s i))
/-- where a man may go -/
def tg (m : Nat → Int32) (c : Nat) (p : Int32) (ρ s i : Nat) : Bool := gl m c p ρ s i && !own m c i
theorem kd_fin : ∀ k : Fin 16, ∀ c : Fin 2, nI k &&& 7 = 6 → nI k >>> ((3 : Int32) &&& 31) = nI c → nI k = 6 + 8 * nI c := by decide +kernel
theorem own_king {m : Nat → Int32} (hm : okm m) {c s k : Nat} (hc : c < 2) (hs : s < 64) (hk : kng m c k) (ho : own m c s = true) (h6 : m s &&& 7 = 6) : s = k := by
  have ho := of_decide_eq_true ho
  obtain ⟨z, hz, e⟩ := pu_inf (hm s hs) (by decide)
  refine hk.2.2 s hs ?_
  rw [e] at h6 ho ⊢
  exact kd_fin ⟨z, hz⟩ ⟨c, hc⟩ h6 ho.2
theorem pu_goals (fu : Nat) (hfu : 64 < fu) (Q : PoT) (hm : okm (po_men Q)) (c s k ρ : Nat) (hc : c < 2) (hs : s < 64) (hρ : ρ < 16) (hside : po_side Q = nI c) (hr : po_rights Q = nI ρ) (hk : kng (po_men Q) c k) (ho : own (po_men Q) c s = true) : ∃ l', f_M_goals fu (nI s) Q = some l' ∧ ∀ i, i < 64 → bt l' i = gl (po_men Q) c (po_passed Q) ρ s i := by
  unfold f_M_goals f_M_kind
  rw [if_pos (pu_in hs (by decide)), nI_clamp (by omega)]
  simp only [Option.bind_some]
  by_cases h1 : po_men Q s &&& 7 = 1
  · rw [if_neg (fun h => h h1)]
    obtain ⟨l', e1, e2⟩ := pu_pawnG fu (by omega) Q hm c s hc hs hside
    rw [e1]
    exact ⟨l', rfl, fun i hi => by unfold gl; rw [if_pos h1]; exact e2 i hi⟩
  · have hgl : ∀ i, gl (po_men Q) c (po_passed Q) ρ s i = (gwa (po_men Q) s i || (decide (po_men Q s &&& 7 = 6) && ctg (po_men Q) c ρ s i)) := fun i => by unfold gl; rw [if_neg h1]
    simp only [hgl]
    rw [if_pos h1]
    obtain ⟨l2, e1, e2⟩ := pu_reach fu (by omega) Q s hs
    rw [e1]
    simp only [Option.bind_some]
    rw [if_pos (pu_in hs (by decide))]
    by_cases h6 : po_men Q s &&& 7 = 6
    · rw [if_neg (fun h => h h6), hside, hm56 ⟨c, hc⟩]
      have hsk := own_king hm hc hs hk ho h6
      by_cases hsh : s = 56 * c + 4
      · have hk' : kng (po_men Q) c (56 * c + 4) := by rw [← hsh, hsk]; exact hk
        rw [if_neg (fun h => h (by rw [hsh])), pu_mayS fu hfu Q hm c ρ hc hρ hside hr hk']
        simp only [Option.bind_some]
        unfold j_M_goals_71
        rw [pu_mayL fu hfu Q hm c ρ hc hρ hside hr hk', hsh, show nI (56 * c + 4) + (2 : Int32) = nI (56 * c + 6) from nI_add _ 2, show nI (56 * c + 4) - (2 : Int32) = nI (56 * c + 2) from nI_sub (a := 56 * c + 4) (b := 2) (by omega), pu_bit (by omega), pu_bit (by omega)]
        simp only [Option.bind_some]
        have hg : ∀ i, i < 64 → (gwa (po_men Q) (56 * c + 4) i || (decide (po_men Q (56 * c + 4) &&& 7 = 6) && ctg (po_men Q) c ρ (56 * c + 4) i)) = (bt l2 i || ((decide (i = 56 * c + 6) && csh (po_men Q) c ρ) || (decide (i = 56 * c + 2) && clg (po_men Q) c ρ))) := by
          intro i hi
          rw [hsh] at e2 h6
          rw [e2 i]
          unfold gwa ctg
          simp [h6]
        cases q1 : csh (po_men Q) c ρ <;> cases q2 : clg (po_men Q) c ρ
        · refine ⟨_, by rw [if_pos (by decide), if_pos (by decide)], fun i hi => ?_⟩
          rw [hg i hi, q1, q2, bt_or, bt_or, bt_0]; simp
        · refine ⟨_, by rw [if_pos (by decide), if_neg (by decide)], fun i hi => ?_⟩
          rw [hg i hi, q1, q2, bt_or, bt_or, bt_0, bt_sh (by omega)]; simp
        · refine ⟨_, by rw [if_neg (by decide), if_pos (by decide)], fun i hi => ?_⟩
          rw [hg i hi, q1, q2, bt_or, bt_or, bt_0, bt_sh (by omega)]; simp
        · refine ⟨_, by rw [if_neg (by decide), if_neg (by decide)], fun i hi => ?_⟩
          rw [hg i hi, q1, q2, bt_or, bt_or, bt_sh (by omega), bt_sh (by omega)]; simp [Bool.or_assoc]
      · rw [if_pos (fun h => hsh ((nI_eq (by omega) (by show 56 * c + 4 < _; omega)).mp h))]
        refine ⟨l2, rfl, fun i hi => ?_⟩
        rw [e2 i]
        unfold gwa ctg
        rw [decide_eq_false hsh, Bool.false_and, Bool.and_false, Bool.or_false]
    · rw [if_pos h6]
      refine ⟨l2, rfl, fun i hi => ?_⟩
      rw [e2 i]
      unfold gwa
      rw [decide_eq_false h6, Bool.false_and, Bool.or_false]
/-! .. and the same of the class -/
theorem gwa_2 {m : Nat → Int32} {s i : Nat} (h : m s &&& 7 = 2) : gwa m s i = sees m s 8 8 1 i := by
  unfold gwa sees gw
  rw [h]
  simp [List.range']
theorem gwa_3 {m : Nat → Int32} {s i : Nat} (h : m s &&& 7 = 3) : gwa m s i = sees m s 4 4 7 i := by
  unfold gwa sees gw
  rw [h]
  simp [List.range']
theorem gwa_4 {m : Nat → Int32} {s i : Nat} (h : m s &&& 7 = 4) : gwa m s i = sees m s 0 4 7 i := by
  unfold gwa sees gw
  rw [h]
  simp [List.range']
theorem gwa_5 {m : Nat → Int32} {s i : Nat} (h : m s &&& 7 = 5) : gwa m s i = sees m s 0 8 7 i := by
  unfold gwa sees gw
  rw [h]
  simp [List.range']
theorem gwa_6 {m : Nat → Int32} {s i : Nat} (h : m s &&& 7 = 6) : gwa m s i = sees m s 0 8 1 i := by
  unfold gwa sees gw
  rw [h]
  simp [List.range']
theorem own_ne {m : Nat → Int32} {c i : Nat} (hc : c < 2) (h : own m (1 - c) i = true) : own m c i = false := by
  have h := of_decide_eq_true h
  apply decide_eq_false
  intro q
  have := q.2.symm.trans h.2
  rw [nI_eq (by omega) (by omega)] at this
  omega
theorem pt_own {m : Nat → Int32} {c : Nat} {p : Int32} {s i : Nat} (hc : c < 2) (hp : p = nI i → m i = 0) (h : pt m c p s i = true) : own m c i = false := by
  have hz : m i = 0 → own m c i = false := fun hz => decide_eq_false (fun q => q.1 hz)
  unfold pt at h
  rw [Bool.or_eq_true] at h
  rcases h with h | h
  · unfold pcp at h
    rw [Bool.and_eq_true, Bool.or_eq_true (own m (1 - c) i)] at h
    rcases h.2 with h | h
    · exact own_ne hc h
    · exact hz (hp (of_decide_eq_true h))
  · unfold pfw at h
    by_cases hn : nx c s < 0
    · rw [if_pos hn] at h; cases h
    · rw [if_neg hn, Bool.and_eq_true, Bool.or_eq_true] at h
      rcases h.2 with h2 | h2
      · exact hz (by rw [of_decide_eq_true h2]; exact of_decide_eq_true h.1)
      · rw [Bool.and_eq_true, Bool.and_eq_true] at h2
        exact hz (of_decide_eq_true h2.2.2)
theorem ctg_own {m : Nat → Int32} {c ρ s i : Nat} (h : ctg m c ρ s i = true) : m i = 0 := by
  unfold ctg csh clg at h
  simp only [Bool.and_eq_true, Bool.or_eq_true, decide_eq_true_eq] at h
  rcases h.2 with ⟨h1, h2⟩ | ⟨h1, h2⟩
  · rw [h1]; exact h2.2.1.2
  · rw [h1]; exact h2.2.1.2.1
/-- kinds of men -/
def okk (m : Nat → Int32) : Prop := ∀ s, s < 64 → ¬ m s = 0 → (m s &&& 7 = 1 ∨ m s &&& 7 = 2 ∨ m s &&& 7 = 3 ∨ m s &&& 7 = 4 ∨ m s &&& 7 = 5 ∨ m s &&& 7 = 6)
theorem pu_targets (fu : Nat) (hfu : 16 < fu) (B : BdT) (hm : okm (bd_men B)) (hkk : okk (bd_men B)) (c s ρ : Nat) (hc : c < 2) (hs : s < 64) (hρ : ρ < 16) (hside : bd_side B = nI c) (hh : okh B) (hr : bd_rights B = nI ρ) (hp : okp (bd_passed B)) (hpz : ∀ i, i < 64 → bd_passed B = nI i → bd_men B i = 0) (ho : own (bd_men B) c s = true) : ∃ l', f_Mover_targets fu (nI s) B = some l' ∧ ∀ i, i < 64 → bt l' i = tg (bd_men B) c (bd_passed B) ρ s i := by
  unfold f_Mover_targets
  have ho' := of_decide_eq_true ho
  rw [hside, if_pos (pu_in hc (by decide)), if_pos (pu_in hs (by decide)), nI_clamp (show c < _ by omega), nI_clamp (show s < _ by omega)]
  have hopen : ∀ (r : Int64) (x : Nat → Bool), (∀ i, bt r i = x i) → ∀ i, i < 64 → bt (((bd_held B c) ^^^ (-1 : Int64)) &&& r) i = (x i && !own (bd_men B) c i) := by
    intro r x hx i hi
    rw [bt_and, bt_not, hh c hc i hi, hx i, decide_eq_true hi, Bool.true_and, Bool.and_comm]
  unfold tg gl
  rcases hkk s hs ho'.1 with h | h | h | h | h | h
  · rw [if_pos h]
    obtain ⟨l', e1, e2⟩ := pu_pawnT fu hfu B c s hc hs hside hh hp
    rw [e1]
    refine ⟨l', rfl, fun i hi => ?_⟩
    rw [e2 i hi, if_pos h]
    cases hpt : pt (bd_men B) c (bd_passed B) s i with
    | false => rfl
    | true => rw [pt_own hc (hpz i hi) hpt]; rfl
  · rw [if_neg (by rw [h]; decide), if_pos h]
    obtain ⟨l', e1, e2⟩ := pu_seen fu B s 8 16 1 hs (by omega) (by omega) (by omega) hfu
    rw [show f_Board_seen fu (nI s) (8 : Int32) (16 : Int32) (1 : Int32) B = some l' from e1]
    refine ⟨_, rfl, fun i hi => ?_⟩
    rw [hopen l' _ e2 i hi, if_neg (by rw [h]; decide), gwa_2 h, h]
    simp
  · rw [if_neg (by rw [h]; decide), if_neg (by rw [h]; decide), if_pos h]
    obtain ⟨l', e1, e2⟩ := pu_seen fu B s 4 8 7 hs (by omega) (by omega) (by omega) hfu
    rw [show f_Board_seen fu (nI s) (4 : Int32) (8 : Int32) (7 : Int32) B = some l' from e1]
    refine ⟨_, rfl, fun i hi => ?_⟩
    rw [hopen l' _ e2 i hi, if_neg (by rw [h]; decide), gwa_3 h, h]
    simp
  · rw [if_neg (by rw [h]; decide), if_neg (by rw [h]; decide), if_neg (by rw [h]; decide), if_pos h]
    obtain ⟨l', e1, e2⟩ := pu_seen fu B s 0 4 7 hs (by omega) (by omega) (by omega) hfu
    rw [show f_Board_seen fu (nI s) (0 : Int32) (4 : Int32) (7 : Int32) B = some l' from e1]
    refine ⟨_, rfl, fun i hi => ?_⟩
    rw [hopen l' _ e2 i hi, if_neg (by rw [h]; decide), gwa_4 h, h]
    simp
  · rw [if_neg (by rw [h]; decide), if_neg (by rw [h]; decide), if_neg (by rw [h]; decide), if_neg (by rw [h]; decide), if_pos h]
    obtain ⟨l', e1, e2⟩ := pu_seen fu B s 0 8 7 hs (by omega) (by omega) (by omega) hfu
    rw [show f_Board_seen fu (nI s) (0 : Int32) (8 : Int32) (7 : Int32) B = some l' from e1]
    refine ⟨_, rfl, fun i hi => ?_⟩
    rw [hopen l' _ e2 i hi, if_neg (by rw [h]; decide), gwa_5 h, h]
    simp
  · rw [if_neg (by rw [h]; decide), if_neg (by rw [h]; decide), if_neg (by rw [h]; decide), if_neg (by rw [h]; decide), if_neg (by rw [h]; decide)]
    obtain ⟨l', e1, e2⟩ := pu_seen fu B s 0 8 1 hs (by omega) (by omega) (by omega) hfu
    obtain ⟨l2, e3, e4⟩ := pu_castT fu hfu B hm c s ρ hc hs hρ hside hh hr
    rw [show f_Board_seen fu (nI s) (0 : Int32) (8 : Int32) (1 : Int32) B = some l' from e1, e3]
    refine ⟨_, rfl, fun i hi => ?_⟩
    rw [bt_or, hopen l' _ e2 i hi, e4 i hi, if_neg (by rw [h]; decide), gwa_6 h, h, decide_eq_true rfl, Bool.true_and]
    cases hct : ctg (bd_men B) c ρ s i with
    | false => simp
    | true => rw [show own (bd_men B) c i = false from decide_eq_false (fun q => q.1 (ctg_own hct))]; simp
