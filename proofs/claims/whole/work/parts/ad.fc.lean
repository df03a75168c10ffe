/-! .. and so the class finds them -/
def sb : Option Nat → Int64
  | none => 0
  | some u => am_shl 1 (nI u)
theorem snd2_n (m : Nat → Int32) (t : Nat) (l : List Nat) : snd2 m (t :: l) none = if m t = 0 then snd2 m l none else snd2 m l (some t) := rfl
theorem snd2_s (m : Nat → Int32) (t u : Nat) (l : List Nat) : snd2 m (t :: l) (some u) = if m t = 0 then snd2 m l (some u) else some (u, m t) := rfl
theorem sh_nz {u : Nat} (hu : u < 64) : ¬ lg_cmp (am_shl 1 (nI u)) 0 = 0 := fun h => by
  have := (bt_z _).mp ((lg0 _).mp h) u hu
  rw [bt_sh hu, decide_eq_true rfl] at this
  cases this
theorem sh_32 (fu : Nat) (b : BdT) (x1 x2 : Int32) (l3 : Int64) (w : Nat) (hw : w < 16) : ∀ (f s n : Nat) (o : Option Nat), s < 64 → f ≤ 7 → f < n → (∀ u, o = some u → u < 64) → l_Board_shields_32 fu b x1 x2 l3 (nI w) n (sb o) (nx w s) (nI (7 - f)) = some (match snd2 (bd_men b) (ryf f w s) o with
    | some (u, man) => .inl (am_shl 1 (nI u), man)
    | none => .inr ()) := by
  intro f
  induction f with
  | zero =>
    intro s n o hs _ hn ho
    obtain ⟨n, rfl⟩ : ∃ m, n = m + 1 := ⟨n - 1, by omega⟩
    show b_Board_shields_32 fu b x1 x2 l3 (nI w) _ (sb o) (nx w s) (nI 7) = _
    unfold b_Board_shields_32
    rw [if_pos (by decide)]
    cases o <;> rfl
  | succ f ih =>
    intro s n o hs hf hn ho
    obtain ⟨n, rfl⟩ : ∃ m, n = m + 1 := ⟨n - 1, by omega⟩
    show b_Board_shields_32 fu b x1 x2 l3 (nI w) (l_Board_shields_32 fu b x1 x2 l3 (nI w) n) (sb o) (nx w s) (nI (7 - (f + 1))) = _
    unfold b_Board_shields_32
    rw [if_neg (show ¬ (7 : Int32) ≤ nI (7 - (f + 1)) from nI_ge (b := 7) (by omega) (by decide))]
    rcases nx_cases hw hs with q | ⟨t, ht, q⟩
    · rw [ry_0 q, q, if_pos (by decide)]
      cases o <;> rfl
    · rw [ry_1 q ht, q, if_neg (nI_pos (by omega)), if_pos (pu_in ht (by decide)), nI_clamp (by omega)]
      have h122 : ∀ o', (∀ u, o' = some u → u < 64) → j_Board_shields_122 fu (l_Board_shields_32 fu b x1 x2 l3 (nI w) n) b x1 x2 l3 (nI w) (sb o') (nI t) (nI (7 - (f + 1))) = some (match snd2 (bd_men b) (ryf f w t) o' with
          | some (u, man) => .inl (am_shl 1 (nI u), man)
          | none => .inr ()) := by
        intro o' ho'
        unfold j_Board_shields_122
        rw [pu_idx hw ht, if_pos (pu_in (by omega) (by decide)), nI_clamp (by omega), nI_1, show 7 - (f + 1) + 1 = 7 - f by omega]
        exact ih t n o' ht (by omega) (by omega) ho'
      unfold j_Board_shields_111
      by_cases hz : bd_men b t = 0
      · rw [if_pos hz, if_pos hz, h122 o ho]
        cases o with
        | none => rw [snd2_n, if_pos hz]
        | some u => rw [snd2_s, if_pos hz]
      · rw [if_neg hz]
        cases o with
        | none =>
          rw [if_pos (show lg_cmp (sb none) 0 = 0 from (lg0 _).mpr rfl), if_neg hz, show am_shl 1 (nI t) = sb (some t) from rfl, h122 (some t) (fun u hu => by cases hu; exact ht), snd2_n, if_neg hz]
        | some u =>
          rw [if_neg (show ¬ lg_cmp (sb (some u)) 0 = 0 from sh_nz (ho u rfl)), snd2_s, if_neg hz]
          rfl
theorem snd2_ok {m : Nat → Int32} (hm : okm m) : ∀ (L : List Nat) (o : Option Nat) {u : Nat} {man : Int32}, (∀ t ∈ L, t < 64) → (∀ u, o = some u → u < 64) → snd2 m L o = some (u, man) → u < 64 ∧ am_in man 16 = true
  | [], none, _, _, _, _, h => by cases h
  | [], some _, _, _, _, _, h => by cases h
  | t :: L, none, u, man, hL, ho, h => by
    unfold snd2 at h
    by_cases hz : m t = 0
    · rw [if_pos hz] at h
      exact snd2_ok hm L none (fun x hx => hL x (List.mem_cons_of_mem _ hx)) ho h
    · rw [if_neg hz] at h
      exact snd2_ok hm L (some t) (fun x hx => hL x (List.mem_cons_of_mem _ hx)) (fun v hv => by cases hv; exact hL t List.mem_cons_self) h
  | t :: L, some a, u, man, hL, ho, h => by
    unfold snd2 at h
    by_cases hz : m t = 0
    · rw [if_pos hz] at h
      exact snd2_ok hm L (some a) (fun x hx => hL x (List.mem_cons_of_mem _ hx)) ho h
    · rw [if_neg hz] at h
      cases h
      exact ⟨ho a rfl, hm t (hL t List.mem_cons_self)⟩
theorem sh_5 (fu : Nat) (hfu : 8 < fu) (b : BdT) (hm : okm (bd_men b)) (k c : Nat) (hk : k < 64) (hc : c < 2) : ∀ (j n : Nat) (l3 : Int64), j ≤ 8 → j < n → ∃ l', l_Board_shields_5 fu b (nI k) (nI c) n l3 (nI (8 - j)) = some l' ∧ (∀ i, bt l3 i = true → bt l' i = true) ∧ ∀ w, 8 - j ≤ w → w < 8 → ∀ i, shd (bd_men b) c k w i = true → bt l' i = true := by
  intro j
  induction j with
  | zero =>
    intro n l3 _ hn
    obtain ⟨n, rfl⟩ : ∃ m, n = m + 1 := ⟨n - 1, by omega⟩
    refine ⟨l3, ?_, fun i h => h, fun w h1 h2 => by omega⟩
    show b_Board_shields_5 fu b (nI k) (nI c) _ l3 (nI 8) = _
    unfold b_Board_shields_5
    rw [if_pos (by decide)]
  | succ j ih =>
    intro n l3 hj hn
    obtain ⟨n, rfl⟩ : ∃ m, n = m + 1 := ⟨n - 1, by omega⟩
    show ∃ l', b_Board_shields_5 fu b (nI k) (nI c) (l_Board_shields_5 fu b (nI k) (nI c) n) l3 (nI (8 - (j + 1))) = some l' ∧ _
    generalize hww : 8 - (j + 1) = w
    have hw1 : 8 - j = w + 1 := by omega
    have hw : w < 8 := by omega
    unfold b_Board_shields_5
    rw [if_neg (show ¬ (8 : Int32) ≤ nI w from nI_ge (b := 8) hw (by decide)), pu_idx (by omega) hk, if_pos (pu_in (by omega) (by decide)), nI_clamp (by omega)]
    have h32 := sh_32 fu b (nI k) (nI c) l3 w (by omega) 7 k fu none hk (by omega) (by omega) (fun u hu => by cases hu)
    rw [show l_Board_shields_32 fu b (nI k) (nI c) l3 (nI w) fu (0 : Int64) (tb_next (64 * w + k)) (0 : Int32) = _ from h32]
    have go : ∀ l4, (∀ i, bt l3 i = true → bt l4 i = true) → (∀ i, shd (bd_men b) c k w i = true → bt l4 i = true) → ∃ l', j_Board_shields_143 fu (l_Board_shields_5 fu b (nI k) (nI c) n) b (nI k) (nI c) l4 (nI w) = some l' ∧ (∀ i, bt l3 i = true → bt l' i = true) ∧ ∀ w', w ≤ w' → w' < 8 → ∀ i, shd (bd_men b) c k w' i = true → bt l' i = true := by
      intro l4 h1 h2
      unfold j_Board_shields_143
      rw [nI_1, ← hw1]
      obtain ⟨l', e1, e2, e3⟩ := ih n l4 (by omega) (by omega)
      refine ⟨l', e1, fun i hi => e2 i (h1 i hi), fun w' q1 q2 i hi => ?_⟩
      by_cases e : w' = w
      · subst e; exact e2 i (h2 i hi)
      · exact e3 w' (by omega) q2 i hi
    cases hs : snd2 (bd_men b) (ryf 7 w k) none with
    | none =>
      exact go l3 (fun i h => h) (fun i h => by unfold shd at h; rw [hs] at h; cases h)
    | some q =>
      obtain ⟨u, man⟩ := q
      obtain ⟨hu, hman⟩ := snd2_ok hm _ none (ryf_lt 7 (by omega) hk).1 (fun u hu => by cases hu) hs
      simp only [Option.bind_some]
      unfold j_Board_shields_65 j_Board_shields_91 j_Board_shields_92 j_Board_shields_106
      have hsh : ∀ i, shd (bd_men b) c k w i = (decide (man >>> ((3 : Int32) &&& 31) = nI c ∧ ¬ (tb_FAR man.toNatClampNeg >>> (nI w &&& 31) &&& 1) = 0) && decide (i = u)) := by
        intro i
        unfold shd
        rw [hs]
        dsimp only
        unfold at_hit
        dsimp only
        rw [if_neg (by decide)]
      by_cases h1 : man >>> ((3 : Int32) &&& 31) = nI c
      · rw [if_neg (fun q => q h1), if_pos hman]
        by_cases h2 : (tb_FAR man.toNatClampNeg >>> (nI w &&& 31) &&& 1) = 0
        · rw [if_pos h2, if_pos rfl]
          exact go _ (fun i h => by rw [bt_or, h]; rfl) (fun i h => by rw [hsh, decide_eq_false (fun q => q.2 h2)] at h; cases h)
        · rw [if_neg h2, if_neg (by decide)]
          refine go _ (fun i h => by rw [bt_or, h]; rfl) (fun i h => ?_)
          rw [hsh, Bool.and_eq_true, decide_eq_true_eq, decide_eq_true_eq] at h
          rw [bt_or, bt_sh hu, decide_eq_true h.2, Bool.or_true]
      · rw [if_pos h1, if_pos rfl]
        exact go _ (fun i h => by rw [bt_or, h]; rfl) (fun i h => by rw [hsh, decide_eq_false (fun q => h1 q.1)] at h; cases h)
theorem bt_end : ∀ t : Fin 64, bt (-72057594037927681) t = decide (t.val < 8 ∨ 55 < t.val) := by decide +kernel
theorem bt_cas : ∀ t : Fin 64, bt 4899916394579099716 t = decide (t.val = 2 ∨ t.val = 6 ∨ t.val = 58 ∨ t.val = 62) := by decide +kernel
theorem cb_aim (fu : Nat) (hfu : 64 < fu) (B : BdT) (z : Pz) (l : StT) (hC : CB B z l) (hG : Gw z) (V : MvT) : ∃ V', f_Mover_takeAim fu B V = some V' ∧ (∀ j, 1 ≤ j → j ≤ 6 → ∀ t, t < 64 → bt (mv_aims V' j) t = aim z (ksq (zm z) (1 - zc z)) j t) ∧ ∀ w, w < 8 → ∀ i, shd (zm z) (zc z) (ksq (zm z) (1 - zc z)) w i = true → bt (mv_hiding V') i = true := by
  obtain ⟨⟨r1, r2, r3, r4, r5, r6⟩, -, -⟩ := hC
  obtain ⟨p1, p2⟩ := gw_okp hG
  have hc2 := hG.1.2.1
  have hm : okm (bd_men B) := by rw [r1]; exact hG.1.1
  obtain ⟨k, g1, g2⟩ := r6 (1 - zc z) (by omega)
  rw [ksq_eq g1]
  unfold f_Mover_takeAim
  have e1c := nI_oth ⟨zc z, hc2⟩
  simp only at e1c
  rw [r3, e1c, if_pos (pu_in (show 1 - zc z < 2 by omega) (by decide)), nI_clamp (show 1 - zc z < _ by omega), g2]
  obtain ⟨a1, s1, t1⟩ := pu_seen fu B k 4 8 7 g1.1 (by omega) (by omega) (by omega) (by omega)
  obtain ⟨a2, s2, t2⟩ := pu_seen fu B k 0 4 7 g1.1 (by omega) (by omega) (by omega) (by omega)
  rw [show f_Board_seen fu (nI k) (4 : Int32) (8 : Int32) (7 : Int32) B = _ from s1]
  simp only [Option.bind_some]
  rw [show f_Board_seen fu (nI k) (0 : Int32) (4 : Int32) (7 : Int32) B = _ from s2]
  simp only [Option.bind_some]
  rw [r1] at t1 t2
  have h58 : ∀ a, a = (if zc z = 0 then 6 else 4) → ∃ V', j_Mover_takeAim_58 fu B V (nI (zc z)) (nI k) a1 a2 (nI a) = some V' ∧ (∀ j, 1 ≤ j → j ≤ 6 → ∀ t, t < 64 → bt (mv_aims V' j) t = aim z k j t) ∧ ∀ w, w < 8 → ∀ i, shd (zm z) (zc z) k w i = true → bt (mv_hiding V') i = true := by
    intro a ha
    have ha4 : a ≤ 6 := by rw [ha]; split <;> omega
    unfold j_Mover_takeAim_58
    obtain ⟨a3, s3, t3⟩ := pu_seen fu B k a (a + 2) 1 g1.1 (by omega) (by omega) (by omega) (by omega)
    obtain ⟨a4, s4, t4⟩ := pu_pbit B (by rw [r5]; exact p1)
    obtain ⟨a5, s5, t5⟩ := pu_seen fu B k 8 16 1 g1.1 (by omega) (by omega) (by omega) (by omega)
    obtain ⟨a6, s6, -, t6⟩ := sh_5 fu (by omega) B hm k (zc z) g1.1 hc2 8 fu 0 (by omega) (by omega)
    rw [r1] at t3 t5 t6
    rw [r5] at t4
    rw [show nI a + (2 : Int32) = nI (a + 2) from nI_add a 2, show f_Board_seen fu (nI k) (nI a) (nI (a + 2)) (1 : Int32) B = _ from s3]
    simp only [Option.bind_some]
    rw [s4]
    simp only [Option.bind_some]
    rw [if_pos (by decide), show f_Board_seen fu (nI k) (8 : Int32) (16 : Int32) (1 : Int32) B = _ from s5]
    simp only [Option.bind_some]
    unfold f_Board_shields
    rw [if_pos (by decide), if_pos (by decide), if_pos (by decide), if_pos (by decide), if_pos (by decide), show l_Board_shields_5 fu B (nI k) (nI (zc z)) fu (0 : Int64) (0 : Int32) = _ from s6]
    simp only [Option.bind_some]
    refine ⟨_, rfl, fun j j1 j2 t ht => ?_, fun w hw i hi => t6 w (by omega) hw i hi⟩
    show bt (vp_updL (vp_updL (vp_updL (vp_updL (vp_updL (vp_updL (mv_aims V) 1 ((a3 ||| (-72057594037927681 : Int64)) ||| a4)) 2 a5) 3 a1) 4 a2) 5 (a1 ||| a2)) 6 (4899916394579099716 : Int64) j) t = aim z k j t
    unfold vp_updL aim
    rcases (show j = 1 ∨ j = 2 ∨ j = 3 ∨ j = 4 ∨ j = 5 ∨ j = 6 by omega) with rfl | rfl | rfl | rfl | rfl | rfl
    · simp only [Nat.reduceEqDiff, if_false, if_true]
      rw [bt_or, bt_or, t3 t, t4 t ht, bt_end ⟨t, ht⟩, ← ha, show a + 2 - a = 2 by omega, Bool.or_assoc]
    · simp only [Nat.reduceEqDiff, if_false, if_true]
      rw [t5 t]
    · simp only [Nat.reduceEqDiff, if_false, if_true]
      rw [t1 t]
    · simp only [Nat.reduceEqDiff, if_false, if_true]
      rw [t2 t]
    · simp only [Nat.reduceEqDiff, if_false, if_true]
      rw [bt_or, t1 t, t2 t]
    · simp only [Nat.reduceEqDiff, if_false, if_true]
      rw [bt_cas ⟨t, ht⟩]
  rcases (show zc z = 0 ∨ zc z = 1 by omega) with e | e
  · rw [if_neg (fun q => q (by rw [e]; decide))]
    exact h58 6 (by rw [if_pos e])
  · rw [if_pos (by rw [e]; decide)]
    exact h58 4 (by rw [if_neg (by omega)])
/-- what is wanted of a man -/
def wtd (z : Pz) (V : MvT) (s t : Nat) : Bool := if bt (mv_hiding V) s = true then true else bt (mv_aims V (zm z s &&& 7).toNatClampNeg) t
theorem flt_mvt (z : Pz) (s : Nat) (f : Nat → Nat → Bool) : ∀ L : List Nat, (L.filter (f s)).flatMap (mvt z s) = (L.flatMap (mvt z s)).filter (fun v => f v.1 v.2.1)
  | [] => rfl
  | t :: L => by
    rw [List.filter_cons, List.flatMap_cons, List.filter_append, ← flt_mvt z s f L]
    have h : (mvt z s t).filter (fun v => f v.1 v.2.1) = if f s t = true then mvt z s t else [] := by
      cases hf : f s t with
      | true =>
        rw [if_pos rfl]
        exact List.filter_eq_self.mpr (fun v hv => by obtain ⟨e1, e2, -⟩ := mem_mvt hv; rw [e1, e2]; exact hf)
      | false =>
        rw [if_neg (by decide)]
        exact List.filter_eq_nil_iff.mpr (fun v hv => by obtain ⟨e1, e2, -⟩ := mem_mvt hv; rw [e1, e2, hf]; decide)
    rw [h]
    cases f s t with
    | true => rw [if_pos rfl, if_pos rfl, List.flatMap_cons]
    | false => rw [if_neg (by decide), if_neg (by decide)]; rfl
theorem sh_bit0 (x : Int64) {k : Nat} (hk : k < 64) : lg_cmp (am_shr x (nI k) &&& 1) 0 = 0 ↔ bt x k = false := by
  rw [lg0, bt_z]
  have e0 : bt (am_shr x (nI k)) 0 = bt x k := by rw [bt_shr x hk (by omega), Nat.zero_add]
  constructor
  · intro h
    have := h 0 (by omega)
    rw [bt_and, e0, show bt 1 0 = true from by decide, Bool.and_true] at this
    exact this
  · intro h i hi
    rw [bt_and, bt1 ⟨i, hi⟩]
    by_cases h0 : i = 0
    · subst h0; rw [e0, h]; rfl
    · rw [decide_eq_false h0, Bool.and_false]
theorem kd7 : ∀ k : Fin 16, nI k &&& 7 = nI (k.val % 8) := by decide +kernel
theorem cb_fc28 (fu : Nat) (hfu : 64 < fu) (B : BdT) (V : MvT) (z : Pz) (l : StT) (hC : CB B z l) (hG : Gw z) : ∀ (j n i : Nat) (x : Int64) (w : RwT) (L : List Mv), (bl x).length = j → j + i ≤ 64 → j < n → (∀ s ∈ bl x, s < 64 ∧ own (zm z) (zc z) s = true) → RW w L → (L ++ ((bl x).flatMap (mvs z)).filter (fun v => wtd z V v.1 v.2.1)).length ≤ 704 → ∃ w', l_Mover_fillChecks_28 fu B V n x (nI i) w = some (w', V) ∧ RW w' (L ++ ((bl x).flatMap (mvs z)).filter (fun v => wtd z V v.1 v.2.1)) := by
  intro j
  induction j with
  | zero =>
    intro n i x w L hx hi hn _ h hl
    obtain ⟨n, rfl⟩ : ∃ m, n = m + 1 := ⟨n - 1, by omega⟩
    have hnil : bl x = [] := List.eq_nil_of_length_eq_zero hx
    refine ⟨w, ?_, by rw [hnil]; simpa using h⟩
    show b_Mover_fillChecks_28 fu B V _ x (nI i) w = _
    unfold b_Mover_fillChecks_28
    by_cases h64 : (64 : Int32) ≤ nI i
    · rw [if_pos h64]
    · rw [if_neg h64, if_pos]
      apply Classical.byContradiction
      intro q
      obtain ⟨k, hk⟩ := bl_split q
      rw [bl_cons hk (fun i hi => bt_rm1 hk i hi)] at hnil
      cases hnil
  | succ j ih =>
    intro n i x w L hx hi hn hown h hl
    obtain ⟨n, rfl⟩ : ∃ m, n = m + 1 := ⟨n - 1, by omega⟩
    show ∃ w', b_Mover_fillChecks_28 fu B V (l_Mover_fillChecks_28 fu B V n) x (nI i) w = some (w', V) ∧ _
    unfold b_Mover_fillChecks_28
    rw [if_neg (show ¬ (64 : Int32) ≤ nI i from nI_ge (b := 64) (by omega) (by decide))]
    have hne : ¬ lg_cmp x 0 = 0 := fun q => by rw [bl_nil q] at hx; cases hx
    rw [if_neg hne]
    obtain ⟨k, hk⟩ := bl_split hne
    have hc := bl_cons hk (fun i hi => bt_rm1 hk i hi)
    rw [hc] at hx hl hown ⊢
    rw [pu_lowest hk]
    simp only [Option.bind_some]
    obtain ⟨o1, o2⟩ := hown k List.mem_cons_self
    obtain ⟨r, t1, t2⟩ := cb_targets fu hfu B z l hC hG k o1 o2
    rw [if_pos (pu_in o1 (by decide)), nI_clamp (by omega), hC.1.1]
    rw [List.length_cons] at hx
    rw [List.flatMap_cons, List.filter_append] at hl ⊢
    obtain ⟨q, hq, e⟩ := pu_inf (hG.1.1 k o1) (by decide)
    have e7 : zm z k &&& 7 = nI (q % 8) := by rw [e]; exact kd7 ⟨q, hq⟩
    have h92 : ∀ t0 : Int64, (∀ t, t < 64 → bt t0 t = wtd z V k t) → ∃ w', j_Mover_fillChecks_92 fu (l_Mover_fillChecks_28 fu B V n) w B V (x &&& (x - 1)) (nI i) (nI k) (zm z k &&& 7) t0 = some (w', V) ∧ RW w' (L ++ ((mvs z k).filter (fun v => wtd z V v.1 v.2.1) ++ ((bl (x &&& (x - 1))).flatMap (mvs z)).filter (fun v => wtd z V v.1 v.2.1))) := by
      intro t0 ht0
      unfold j_Mover_fillChecks_92
      rw [t1]
      simp only [Option.bind_some]
      have hbl : bl (r &&& t0) = (tgs z k).filter (wtd z V k) := by
        unfold tgs
        rw [List.filter_filter]
        refine bl_eq (fun t ht => ?_)
        rw [bt_and, ht0 t ht]
        have : bt r t = tz z k t := by
          have h1 : t ∈ bl r ↔ t ∈ tgs z k := by rw [t2]
          rw [bl_mem] at h1
          unfold tgs at h1
          rw [List.mem_filter, List.mem_range] at h1
          rw [Bool.eq_iff_iff]
          exact ⟨fun a => (h1.mp ⟨ht, a⟩).2, fun a => (h1.mpr ⟨ht, a⟩).2⟩
        rw [this, Bool.and_comm]
      have hmv : (bl (r &&& t0)).flatMap (mvt z k) = (mvs z k).filter (fun v => wtd z V v.1 v.2.1) := by
        rw [hbl, flt_mvt]; rfl
      have go : ∀ x4 : Int32, (x4 = 0 ↔ ¬ zm z k &&& 7 = 1) → ∃ w', j_Mover_fillChecks_117 fu (l_Mover_fillChecks_28 fu B V n) w B V (x &&& (x - 1)) (nI i) (nI k) (r &&& t0) x4 = some (w', V) ∧ RW w' (L ++ ((mvs z k).filter (fun v => wtd z V v.1 v.2.1) ++ ((bl (x &&& (x - 1))).flatMap (mvs z)).filter (fun v => wtd z V v.1 v.2.1))) := by
        intro x4 hx4
        obtain ⟨w1, a1, a2⟩ := rw_addAll fu hfu z k x4 hx4 (r &&& t0) w L h (by rw [hmv]; simp only [List.length_append] at hl ⊢; omega)
        unfold j_Mover_fillChecks_117
        rw [a1]
        simp only [Option.bind_some]
        rw [hmv] at a2
        obtain ⟨w2, b1, b2⟩ := ih n (i + 1) _ w1 _ (by omega) (by omega) (by omega) (fun s hs => hown s (List.mem_cons_of_mem _ hs)) a2 (by rw [List.append_assoc]; exact hl)
        refine ⟨w2, ?_, by rw [List.append_assoc] at b2; exact b2⟩
        rw [nI_1]; exact b1
      by_cases hp : zm z k &&& 7 = 1
      · rw [if_neg (fun q => q hp)]
        exact go 1 ⟨fun h => absurd h (by decide), fun h => absurd hp h⟩
      · rw [if_pos hp]
        exact go 0 ⟨fun _ => hp, fun _ => rfl⟩
    by_cases hh : bt (mv_hiding V) k = true
    · rw [if_neg (fun w => by rw [(sh_bit0 _ o1).mp w] at hh; cases hh)]
      exact h92 (-1) (fun t ht => by unfold wtd; rw [if_pos hh, bt_neg1, decide_eq_true ht])
    · rw [if_pos ((sh_bit0 _ o1).mpr (by rw [Bool.not_eq_true] at hh; exact hh)), if_pos]
      · exact h92 _ (fun t ht => by unfold wtd; rw [if_neg hh])
      · rw [e7]
        refine pu_in ?_ (by decide)
        have ho := of_decide_eq_true o2
        have h6 := hG.2.1 k o1 ho.1
        rw [e7] at h6
        have hx : ∀ a b, a < 8 → b < 8 → nI a = nI b → a = b := fun a b ha hb h => (nI_eq (by omega) (by omega)).mp h
        rcases h6 with h6 | h6 | h6 | h6 | h6 | h6
        · have := hx (q % 8) 1 (by omega) (by omega) h6; omega
        · have := hx (q % 8) 2 (by omega) (by omega) h6; omega
        · have := hx (q % 8) 3 (by omega) (by omega) h6; omega
        · have := hx (q % 8) 4 (by omega) (by omega) h6; omega
        · have := hx (q % 8) 5 (by omega) (by omega) h6; omega
        · have := hx (q % 8) 6 (by omega) (by omega) h6; omega
theorem okC_of (hN : okN) (fu : Nat) (hfu : 64 < fu) : okC fu := by
  intro z l B w V hG hC
  obtain ⟨V1, a1, a2, a3⟩ := cb_aim fu hfu B z l hC hG.1 V
  obtain ⟨h1, h2⟩ := cb_held B z l hC hG.1.1
  have hlen := bl_len (bd_held B (bd_side B).toNatClampNeg)
  unfold f_Mover_fillChecks
  rw [a1]
  simp only [Option.bind_some]
  rw [if_pos h1]
  have hN' := hN z hG
  obtain ⟨w', e1, e2⟩ := cb_fc28 fu hfu B V1 z l hC hG.1 _ fu 0 _ (rw_told w, 0) [] rfl (by omega) (by omega) (fun s hs => by rw [h2] at hs; exact mem_ows hs) (rw_nil w) (by
    rw [h2]
    have := List.length_filter_le (fun v => wtd z V1 v.1 v.2.1) (pml z)
    exact Nat.le_trans this hN')
  rw [h2] at e2
  refine ⟨w', V1, (fun v => wtd z V1 v.1 v.2.1), e1, e2, fun v hv hc => ?_⟩
  obtain ⟨hpm, -, hvm, -⟩ := lgl_ok hG hv
  have ho := of_decide_eq_true hpm.2.2.1
  obtain ⟨q, hq, e⟩ := pu_inf (hG.1.1.1 v.1 hpm.1) (by decide)
  have e7 : zm z v.1 &&& 7 = nI (q % 8) := by rw [e]; exact kd7 ⟨q, hq⟩
  have hx : ∀ a b, a < 8 → b < 8 → nI a = nI b → a = b := fun a b ha hb h => (nI_eq (by omega) (by omega)).mp h
  have hq6 : 1 ≤ q % 8 ∧ q % 8 ≤ 6 := by
    have h6 := hG.1.2.1 v.1 hpm.1 ho.1
    rw [e7] at h6
    rcases h6 with h6 | h6 | h6 | h6 | h6 | h6
    · have := hx (q % 8) 1 (by omega) (by omega) h6; omega
    · have := hx (q % 8) 2 (by omega) (by omega) h6; omega
    · have := hx (q % 8) 3 (by omega) (by omega) h6; omega
    · have := hx (q % 8) 4 (by omega) (by omega) h6; omega
    · have := hx (q % 8) 5 (by omega) (by omega) h6; omega
    · have := hx (q % 8) 6 (by omega) (by omega) h6; omega
  show wtd z V1 v.1 v.2.1 = true
  unfold wtd
  by_cases hh : bt (mv_hiding V1) v.1 = true
  · rw [if_pos hh]
  · rw [if_neg hh, e7, nI_clamp (by omega), a2 (q % 8) hq6.1 hq6.2 v.2.1 hpm.2.1]
    rcases chk_aim hG hv hc (q % 8) e7 (by omega) with h | ⟨w, hw, h⟩
    · exact h
    · exact absurd (a3 w hw v.1 h) hh
